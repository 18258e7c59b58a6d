section
-- ===== PART A: goes FIRST, ahead of the names: the tables' words, and 'selects' of the private methods out of them =====
/-- a private method of a class that the tables say can be made, by its rows of tables_1 -/
def lw_okq (q : MethodName × Nat) : Prop := (q.1.cls ≠ "java/lang/invoke/MethodHandle" ∧ q.1.cls ≠ "java/lang/invoke/VarHandle") ∧ Cond.instantiable q.1.cls q.2 ∈ tables_1 ∧ Cond.privateMethod q.1 ∈ tables_1 ∧ Cond.instanceMethod q.1 ∈ tables_1
theorem lw_p0 : lw_okq (⟨"UnitDesk", "takeLine", "()I"⟩, 6) := ⟨⟨by decide +kernel, by decide +kernel⟩, List.mem_of_getElem? (i := 26) (by decide +kernel), List.mem_of_getElem? (i := 307) (by decide +kernel), List.mem_of_getElem? (i := 308) (by decide +kernel)⟩
theorem lw_p1 : lw_okq (⟨"UnitDesk$Text", "layOut", "()V"⟩, 5) := ⟨⟨by decide +kernel, by decide +kernel⟩, List.mem_of_getElem? (i := 59) (by decide +kernel), List.mem_of_getElem? (i := 327) (by decide +kernel), List.mem_of_getElem? (i := 328) (by decide +kernel)⟩
theorem lw_p2 : lw_okq (⟨"UnitDesk$Text", "shortenJumps", "()V"⟩, 5) := ⟨⟨by decide +kernel, by decide +kernel⟩, List.mem_of_getElem? (i := 59) (by decide +kernel), List.mem_of_getElem? (i := 331) (by decide +kernel), List.mem_of_getElem? (i := 332) (by decide +kernel)⟩
theorem lw_p3 : lw_okq (⟨"UnitDesk$Text", "placeItems", "()V"⟩, 5) := ⟨⟨by decide +kernel, by decide +kernel⟩, List.mem_of_getElem? (i := 59) (by decide +kernel), List.mem_of_getElem? (i := 337) (by decide +kernel), List.mem_of_getElem? (i := 338) (by decide +kernel)⟩
theorem lw_p4 : lw_okq (⟨"UnitDesk$Text", "lengthenJumps", "()Z"⟩, 5) := ⟨⟨by decide +kernel, by decide +kernel⟩, List.mem_of_getElem? (i := 59) (by decide +kernel), List.mem_of_getElem? (i := 357) (by decide +kernel), List.mem_of_getElem? (i := 358) (by decide +kernel)⟩
theorem lw_p5 : lw_okq (⟨"UnitDesk$Text", "reachesShort", "(LUnitDesk$Item;)Z"⟩, 5) := ⟨⟨by decide +kernel, by decide +kernel⟩, List.mem_of_getElem? (i := 59) (by decide +kernel), List.mem_of_getElem? (i := 361) (by decide +kernel), List.mem_of_getElem? (i := 362) (by decide +kernel)⟩
theorem lw_p6 : lw_okq (⟨"UnitDesk$Text", "addressOf", "(I)I"⟩, 5) := ⟨⟨by decide +kernel, by decide +kernel⟩, List.mem_of_getElem? (i := 59) (by decide +kernel), List.mem_of_getElem? (i := 365) (by decide +kernel), List.mem_of_getElem? (i := 366) (by decide +kernel)⟩
theorem lw_p7 : lw_okq (⟨"UnitDesk$Draft", "firstWordIs", "(Ljava/lang/String;)Z"⟩, 5) := ⟨⟨by decide +kernel, by decide +kernel⟩, List.mem_of_getElem? (i := 34) (by decide +kernel), List.mem_of_getElem? (i := 375) (by decide +kernel), List.mem_of_getElem? (i := 376) (by decide +kernel)⟩
theorem lw_p8 : lw_okq (⟨"UnitDesk", "takeArguments", "(LUnitDesk$Item;)Z"⟩, 6) := ⟨⟨by decide +kernel, by decide +kernel⟩, List.mem_of_getElem? (i := 26) (by decide +kernel), List.mem_of_getElem? (i := 434) (by decide +kernel), List.mem_of_getElem? (i := 435) (by decide +kernel)⟩
theorem lw_p9 : lw_okq (⟨"UnitDesk", "takeArgument", "(LUnitDesk$Item;CI)Z"⟩, 6) := ⟨⟨by decide +kernel, by decide +kernel⟩, List.mem_of_getElem? (i := 26) (by decide +kernel), List.mem_of_getElem? (i := 453) (by decide +kernel), List.mem_of_getElem? (i := 454) (by decide +kernel)⟩
theorem lw_p10 : lw_okq (⟨"UnitDesk$Draft", "digits", "(II)I"⟩, 5) := ⟨⟨by decide +kernel, by decide +kernel⟩, List.mem_of_getElem? (i := 34) (by decide +kernel), List.mem_of_getElem? (i := 461) (by decide +kernel), List.mem_of_getElem? (i := 462) (by decide +kernel)⟩
theorem lw_p11 : lw_okq (⟨"UnitDesk$Text", "standsBeforeCases", "(I)Z"⟩, 5) := ⟨⟨by decide +kernel, by decide +kernel⟩, List.mem_of_getElem? (i := 59) (by decide +kernel), List.mem_of_getElem? (i := 526) (by decide +kernel), List.mem_of_getElem? (i := 527) (by decide +kernel)⟩
theorem lw_p12 : lw_okq (⟨"UnitDesk$Text", "writeCases", "(LUnitDesk$Code;LUnitDesk$Item;I)V"⟩, 5) := ⟨⟨by decide +kernel, by decide +kernel⟩, List.mem_of_getElem? (i := 59) (by decide +kernel), List.mem_of_getElem? (i := 538) (by decide +kernel), List.mem_of_getElem? (i := 539) (by decide +kernel)⟩
theorem lw_p13 : lw_okq (⟨"UnitDesk$Text", "writeBits", "(LUnitDesk$Code;LUnitDesk$Item;)V"⟩, 5) := ⟨⟨by decide +kernel, by decide +kernel⟩, List.mem_of_getElem? (i := 59) (by decide +kernel), List.mem_of_getElem? (i := 543) (by decide +kernel), List.mem_of_getElem? (i := 544) (by decide +kernel)⟩
theorem lw_p14 : lw_okq (⟨"UnitDesk$Reading", "kindOf", "(I)LUnitDesk$Kind;"⟩, 7) := ⟨⟨by decide +kernel, by decide +kernel⟩, List.mem_of_getElem? (i := 171) (by decide +kernel), List.mem_of_getElem? (i := 584) (by decide +kernel), List.mem_of_getElem? (i := 585) (by decide +kernel)⟩
theorem lw_p15 : lw_okq (⟨"UnitDesk$Reading", "canReadCases", "(LUnitDesk$Code;)Z"⟩, 7) := ⟨⟨by decide +kernel, by decide +kernel⟩, List.mem_of_getElem? (i := 171) (by decide +kernel), List.mem_of_getElem? (i := 590) (by decide +kernel), List.mem_of_getElem? (i := 591) (by decide +kernel)⟩
def lw_privs_1 : List (MethodName × Nat) := [(⟨"UnitDesk", "takeLine", "()I"⟩, 6), (⟨"UnitDesk$Text", "layOut", "()V"⟩, 5), (⟨"UnitDesk$Text", "shortenJumps", "()V"⟩, 5), (⟨"UnitDesk$Text", "placeItems", "()V"⟩, 5), (⟨"UnitDesk$Text", "lengthenJumps", "()Z"⟩, 5), (⟨"UnitDesk$Text", "reachesShort", "(LUnitDesk$Item;)Z"⟩, 5), (⟨"UnitDesk$Text", "addressOf", "(I)I"⟩, 5), (⟨"UnitDesk$Draft", "firstWordIs", "(Ljava/lang/String;)Z"⟩, 5), (⟨"UnitDesk", "takeArguments", "(LUnitDesk$Item;)Z"⟩, 6), (⟨"UnitDesk", "takeArgument", "(LUnitDesk$Item;CI)Z"⟩, 6), (⟨"UnitDesk$Draft", "digits", "(II)I"⟩, 5), (⟨"UnitDesk$Text", "standsBeforeCases", "(I)Z"⟩, 5), (⟨"UnitDesk$Text", "writeCases", "(LUnitDesk$Code;LUnitDesk$Item;I)V"⟩, 5), (⟨"UnitDesk$Text", "writeBits", "(LUnitDesk$Code;LUnitDesk$Item;)V"⟩, 5), (⟨"UnitDesk$Reading", "kindOf", "(I)LUnitDesk$Kind;"⟩, 7), (⟨"UnitDesk$Reading", "canReadCases", "(LUnitDesk$Code;)Z"⟩, 7)]
theorem lw_r1 : ∀ q ∈ lw_privs_1, lw_okq q := List.forall_mem_cons.mpr ⟨lw_p0, List.forall_mem_cons.mpr ⟨lw_p1, List.forall_mem_cons.mpr ⟨lw_p2, List.forall_mem_cons.mpr ⟨lw_p3, List.forall_mem_cons.mpr ⟨lw_p4, List.forall_mem_cons.mpr ⟨lw_p5, List.forall_mem_cons.mpr ⟨lw_p6, List.forall_mem_cons.mpr ⟨lw_p7, List.forall_mem_cons.mpr ⟨lw_p8, List.forall_mem_cons.mpr ⟨lw_p9, List.forall_mem_cons.mpr ⟨lw_p10, List.forall_mem_cons.mpr ⟨lw_p11, List.forall_mem_cons.mpr ⟨lw_p12, List.forall_mem_cons.mpr ⟨lw_p13, List.forall_mem_cons.mpr ⟨lw_p14, List.forall_mem_cons.mpr ⟨lw_p15, fun _ h => absurd h List.not_mem_nil⟩⟩⟩⟩⟩⟩⟩⟩⟩⟩⟩⟩⟩⟩⟩⟩
theorem lw_p16 : lw_okq (⟨"UnitDesk$Reading", "canReadBits", "(LUnitDesk$Code;)Z"⟩, 7) := ⟨⟨by decide +kernel, by decide +kernel⟩, List.mem_of_getElem? (i := 171) (by decide +kernel), List.mem_of_getElem? (i := 594) (by decide +kernel), List.mem_of_getElem? (i := 595) (by decide +kernel)⟩
theorem lw_p17 : lw_okq (⟨"UnitDesk$Reading", "caseDistance", "(I)I"⟩, 7) := ⟨⟨by decide +kernel, by decide +kernel⟩, List.mem_of_getElem? (i := 171) (by decide +kernel), List.mem_of_getElem? (i := 673) (by decide +kernel), List.mem_of_getElem? (i := 674) (by decide +kernel)⟩
theorem lw_p18 : lw_okq (⟨"UnitDesk$Reading", "tellArgument", "(CLjava/lang/StringBuilder;)V"⟩, 7) := ⟨⟨by decide +kernel, by decide +kernel⟩, List.mem_of_getElem? (i := 171) (by decide +kernel), List.mem_of_getElem? (i := 812) (by decide +kernel), List.mem_of_getElem? (i := 813) (by decide +kernel)⟩
theorem lw_p19 : lw_okq (⟨"UnitDesk$Reading", "tellCases", "(Ljava/lang/StringBuilder;)V"⟩, 7) := ⟨⟨by decide +kernel, by decide +kernel⟩, List.mem_of_getElem? (i := 171) (by decide +kernel), List.mem_of_getElem? (i := 855) (by decide +kernel), List.mem_of_getElem? (i := 856) (by decide +kernel)⟩
theorem lw_p20 : lw_okq (⟨"UnitDesk$Machine", "calculate", "(LUnitDesk$Reading;)V"⟩, 6) := ⟨⟨by decide +kernel, by decide +kernel⟩, List.mem_of_getElem? (i := 208) (by decide +kernel), List.mem_of_getElem? (i := 885) (by decide +kernel), List.mem_of_getElem? (i := 886) (by decide +kernel)⟩
theorem lw_p21 : lw_okq (⟨"UnitDesk$Machine", "moveOn", "(LUnitDesk$Code;LUnitDesk$Reading;)V"⟩, 6) := ⟨⟨by decide +kernel, by decide +kernel⟩, List.mem_of_getElem? (i := 208) (by decide +kernel), List.mem_of_getElem? (i := 897) (by decide +kernel), List.mem_of_getElem? (i := 898) (by decide +kernel)⟩
theorem lw_p22 : lw_okq (⟨"UnitDesk$Machine", "tableDistance", "(LUnitDesk$Code;LUnitDesk$Reading;I)I"⟩, 6) := ⟨⟨by decide +kernel, by decide +kernel⟩, List.mem_of_getElem? (i := 208) (by decide +kernel), List.mem_of_getElem? (i := 904) (by decide +kernel), List.mem_of_getElem? (i := 905) (by decide +kernel)⟩
theorem lw_p23 : lw_okq (⟨"UnitDesk$Machine", "leaps", "(LUnitDesk$Reading;I)Z"⟩, 6) := ⟨⟨by decide +kernel, by decide +kernel⟩, List.mem_of_getElem? (i := 208) (by decide +kernel), List.mem_of_getElem? (i := 910) (by decide +kernel), List.mem_of_getElem? (i := 911) (by decide +kernel)⟩
theorem lw_p24 : lw_okq (⟨"UnitDeskModel", "part", "()V"⟩, 45) := ⟨⟨by decide +kernel, by decide +kernel⟩, List.mem_of_getElem? (i := 918) (by decide +kernel), List.mem_of_getElem? (i := 1072) (by decide +kernel), List.mem_of_getElem? (i := 1073) (by decide +kernel)⟩
theorem lw_p25 : lw_okq (⟨"UnitDeskModel", "lineRead", "()I"⟩, 45) := ⟨⟨by decide +kernel, by decide +kernel⟩, List.mem_of_getElem? (i := 918) (by decide +kernel), List.mem_of_getElem? (i := 1076) (by decide +kernel), List.mem_of_getElem? (i := 1077) (by decide +kernel)⟩
theorem lw_p26 : lw_okq (⟨"UnitDeskModel", "labelIn", "(I)I"⟩, 45) := ⟨⟨by decide +kernel, by decide +kernel⟩, List.mem_of_getElem? (i := 918) (by decide +kernel), List.mem_of_getElem? (i := 1080) (by decide +kernel), List.mem_of_getElem? (i := 1081) (by decide +kernel)⟩
theorem lw_p27 : lw_okq (⟨"UnitDeskModel", "letters", "(II)I"⟩, 45) := ⟨⟨by decide +kernel, by decide +kernel⟩, List.mem_of_getElem? (i := 918) (by decide +kernel), List.mem_of_getElem? (i := 1084) (by decide +kernel), List.mem_of_getElem? (i := 1085) (by decide +kernel)⟩
theorem lw_p28 : lw_okq (⟨"UnitDeskModel", "setLabel", "(I)I"⟩, 45) := ⟨⟨by decide +kernel, by decide +kernel⟩, List.mem_of_getElem? (i := 918) (by decide +kernel), List.mem_of_getElem? (i := 1088) (by decide +kernel), List.mem_of_getElem? (i := 1089) (by decide +kernel)⟩
theorem lw_p29 : lw_okq (⟨"UnitDeskModel", "find", "(I)I"⟩, 45) := ⟨⟨by decide +kernel, by decide +kernel⟩, List.mem_of_getElem? (i := 918) (by decide +kernel), List.mem_of_getElem? (i := 1092) (by decide +kernel), List.mem_of_getElem? (i := 1093) (by decide +kernel)⟩
theorem lw_p30 : lw_okq (⟨"UnitDeskModel", "named", "(I)I"⟩, 45) := ⟨⟨by decide +kernel, by decide +kernel⟩, List.mem_of_getElem? (i := 918) (by decide +kernel), List.mem_of_getElem? (i := 1096) (by decide +kernel), List.mem_of_getElem? (i := 1097) (by decide +kernel)⟩
theorem lw_p31 : lw_okq (⟨"UnitDeskModel", "readLine", "()Z"⟩, 45) := ⟨⟨by decide +kernel, by decide +kernel⟩, List.mem_of_getElem? (i := 918) (by decide +kernel), List.mem_of_getElem? (i := 1111) (by decide +kernel), List.mem_of_getElem? (i := 1112) (by decide +kernel)⟩
def lw_privs_2 : List (MethodName × Nat) := [(⟨"UnitDesk$Reading", "canReadBits", "(LUnitDesk$Code;)Z"⟩, 7), (⟨"UnitDesk$Reading", "caseDistance", "(I)I"⟩, 7), (⟨"UnitDesk$Reading", "tellArgument", "(CLjava/lang/StringBuilder;)V"⟩, 7), (⟨"UnitDesk$Reading", "tellCases", "(Ljava/lang/StringBuilder;)V"⟩, 7), (⟨"UnitDesk$Machine", "calculate", "(LUnitDesk$Reading;)V"⟩, 6), (⟨"UnitDesk$Machine", "moveOn", "(LUnitDesk$Code;LUnitDesk$Reading;)V"⟩, 6), (⟨"UnitDesk$Machine", "tableDistance", "(LUnitDesk$Code;LUnitDesk$Reading;I)I"⟩, 6), (⟨"UnitDesk$Machine", "leaps", "(LUnitDesk$Reading;I)Z"⟩, 6), (⟨"UnitDeskModel", "part", "()V"⟩, 45), (⟨"UnitDeskModel", "lineRead", "()I"⟩, 45), (⟨"UnitDeskModel", "labelIn", "(I)I"⟩, 45), (⟨"UnitDeskModel", "letters", "(II)I"⟩, 45), (⟨"UnitDeskModel", "setLabel", "(I)I"⟩, 45), (⟨"UnitDeskModel", "find", "(I)I"⟩, 45), (⟨"UnitDeskModel", "named", "(I)I"⟩, 45), (⟨"UnitDeskModel", "readLine", "()Z"⟩, 45)]
theorem lw_r2 : ∀ q ∈ lw_privs_2, lw_okq q := List.forall_mem_cons.mpr ⟨lw_p16, List.forall_mem_cons.mpr ⟨lw_p17, List.forall_mem_cons.mpr ⟨lw_p18, List.forall_mem_cons.mpr ⟨lw_p19, List.forall_mem_cons.mpr ⟨lw_p20, List.forall_mem_cons.mpr ⟨lw_p21, List.forall_mem_cons.mpr ⟨lw_p22, List.forall_mem_cons.mpr ⟨lw_p23, List.forall_mem_cons.mpr ⟨lw_p24, List.forall_mem_cons.mpr ⟨lw_p25, List.forall_mem_cons.mpr ⟨lw_p26, List.forall_mem_cons.mpr ⟨lw_p27, List.forall_mem_cons.mpr ⟨lw_p28, List.forall_mem_cons.mpr ⟨lw_p29, List.forall_mem_cons.mpr ⟨lw_p30, List.forall_mem_cons.mpr ⟨lw_p31, fun _ h => absurd h List.not_mem_nil⟩⟩⟩⟩⟩⟩⟩⟩⟩⟩⟩⟩⟩⟩⟩⟩
theorem lw_p32 : lw_okq (⟨"UnitDeskModel", "registerIn", "(I)I"⟩, 45) := ⟨⟨by decide +kernel, by decide +kernel⟩, List.mem_of_getElem? (i := 918) (by decide +kernel), List.mem_of_getElem? (i := 1124) (by decide +kernel), List.mem_of_getElem? (i := 1125) (by decide +kernel)⟩
theorem lw_p33 : lw_okq (⟨"UnitDeskModel", "digits", "(II)I"⟩, 45) := ⟨⟨by decide +kernel, by decide +kernel⟩, List.mem_of_getElem? (i := 918) (by decide +kernel), List.mem_of_getElem? (i := 1128) (by decide +kernel), List.mem_of_getElem? (i := 1129) (by decide +kernel)⟩
theorem lw_p34 : lw_okq (⟨"UnitDeskModel", "numberIn", "(III)I"⟩, 45) := ⟨⟨by decide +kernel, by decide +kernel⟩, List.mem_of_getElem? (i := 918) (by decide +kernel), List.mem_of_getElem? (i := 1132) (by decide +kernel), List.mem_of_getElem? (i := 1133) (by decide +kernel)⟩
theorem lw_p35 : lw_okq (⟨"UnitDeskModel", "newNames", "()I"⟩, 45) := ⟨⟨by decide +kernel, by decide +kernel⟩, List.mem_of_getElem? (i := 918) (by decide +kernel), List.mem_of_getElem? (i := 1137) (by decide +kernel), List.mem_of_getElem? (i := 1138) (by decide +kernel)⟩
theorem lw_p36 : lw_okq (⟨"UnitDeskModel", "settle", "()V"⟩, 45) := ⟨⟨by decide +kernel, by decide +kernel⟩, List.mem_of_getElem? (i := 918) (by decide +kernel), List.mem_of_getElem? (i := 1149) (by decide +kernel), List.mem_of_getElem? (i := 1150) (by decide +kernel)⟩
theorem lw_p37 : lw_okq (⟨"UnitDeskModel", "layOut", "()V"⟩, 45) := ⟨⟨by decide +kernel, by decide +kernel⟩, List.mem_of_getElem? (i := 918) (by decide +kernel), List.mem_of_getElem? (i := 1153) (by decide +kernel), List.mem_of_getElem? (i := 1154) (by decide +kernel)⟩
theorem lw_p38 : lw_okq (⟨"UnitDeskModel", "sizeOf", "(I)I"⟩, 45) := ⟨⟨by decide +kernel, by decide +kernel⟩, List.mem_of_getElem? (i := 918) (by decide +kernel), List.mem_of_getElem? (i := 1157) (by decide +kernel), List.mem_of_getElem? (i := 1158) (by decide +kernel)⟩
theorem lw_p39 : lw_okq (⟨"UnitDeskModel", "distance", "(I)I"⟩, 45) := ⟨⟨by decide +kernel, by decide +kernel⟩, List.mem_of_getElem? (i := 918) (by decide +kernel), List.mem_of_getElem? (i := 1161) (by decide +kernel), List.mem_of_getElem? (i := 1162) (by decide +kernel)⟩
theorem lw_p40 : lw_okq (⟨"UnitDeskModel", "meaning", "(I)I"⟩, 45) := ⟨⟨by decide +kernel, by decide +kernel⟩, List.mem_of_getElem? (i := 918) (by decide +kernel), List.mem_of_getElem? (i := 1165) (by decide +kernel), List.mem_of_getElem? (i := 1166) (by decide +kernel)⟩
theorem lw_p41 : lw_okq (⟨"UnitDeskModel", "isCasesAt", "(I)Z"⟩, 45) := ⟨⟨by decide +kernel, by decide +kernel⟩, List.mem_of_getElem? (i := 918) (by decide +kernel), List.mem_of_getElem? (i := 1169) (by decide +kernel), List.mem_of_getElem? (i := 1170) (by decide +kernel)⟩
theorem lw_p42 : lw_okq (⟨"UnitDeskModel", "write", "(II)V"⟩, 45) := ⟨⟨by decide +kernel, by decide +kernel⟩, List.mem_of_getElem? (i := 918) (by decide +kernel), List.mem_of_getElem? (i := 1173) (by decide +kernel), List.mem_of_getElem? (i := 1174) (by decide +kernel)⟩
theorem lw_p43 : lw_okq (⟨"UnitDeskModel", "rest", "(I)I"⟩, 45) := ⟨⟨by decide +kernel, by decide +kernel⟩, List.mem_of_getElem? (i := 918) (by decide +kernel), List.mem_of_getElem? (i := 1177) (by decide +kernel), List.mem_of_getElem? (i := 1178) (by decide +kernel)⟩
theorem lw_p44 : lw_okq (⟨"UnitDeskModel", "look", "(I)Z"⟩, 45) := ⟨⟨by decide +kernel, by decide +kernel⟩, List.mem_of_getElem? (i := 918) (by decide +kernel), List.mem_of_getElem? (i := 1198) (by decide +kernel), List.mem_of_getElem? (i := 1199) (by decide +kernel)⟩
theorem lw_p45 : lw_okq (⟨"UnitDeskModel", "caseAt", "(II)I"⟩, 45) := ⟨⟨by decide +kernel, by decide +kernel⟩, List.mem_of_getElem? (i := 918) (by decide +kernel), List.mem_of_getElem? (i := 1206) (by decide +kernel), List.mem_of_getElem? (i := 1207) (by decide +kernel)⟩
theorem lw_p46 : lw_okq (⟨"UnitDeskModel", "letter", "(I)V"⟩, 45) := ⟨⟨by decide +kernel, by decide +kernel⟩, List.mem_of_getElem? (i := 918) (by decide +kernel), List.mem_of_getElem? (i := 1218) (by decide +kernel), List.mem_of_getElem? (i := 1219) (by decide +kernel)⟩
theorem lw_p47 : lw_okq (⟨"UnitDeskModel", "tellRegister", "(I)V"⟩, 45) := ⟨⟨by decide +kernel, by decide +kernel⟩, List.mem_of_getElem? (i := 918) (by decide +kernel), List.mem_of_getElem? (i := 1222) (by decide +kernel), List.mem_of_getElem? (i := 1223) (by decide +kernel)⟩
def lw_privs_3 : List (MethodName × Nat) := [(⟨"UnitDeskModel", "registerIn", "(I)I"⟩, 45), (⟨"UnitDeskModel", "digits", "(II)I"⟩, 45), (⟨"UnitDeskModel", "numberIn", "(III)I"⟩, 45), (⟨"UnitDeskModel", "newNames", "()I"⟩, 45), (⟨"UnitDeskModel", "settle", "()V"⟩, 45), (⟨"UnitDeskModel", "layOut", "()V"⟩, 45), (⟨"UnitDeskModel", "sizeOf", "(I)I"⟩, 45), (⟨"UnitDeskModel", "distance", "(I)I"⟩, 45), (⟨"UnitDeskModel", "meaning", "(I)I"⟩, 45), (⟨"UnitDeskModel", "isCasesAt", "(I)Z"⟩, 45), (⟨"UnitDeskModel", "write", "(II)V"⟩, 45), (⟨"UnitDeskModel", "rest", "(I)I"⟩, 45), (⟨"UnitDeskModel", "look", "(I)Z"⟩, 45), (⟨"UnitDeskModel", "caseAt", "(II)I"⟩, 45), (⟨"UnitDeskModel", "letter", "(I)V"⟩, 45), (⟨"UnitDeskModel", "tellRegister", "(I)V"⟩, 45)]
theorem lw_r3 : ∀ q ∈ lw_privs_3, lw_okq q := List.forall_mem_cons.mpr ⟨lw_p32, List.forall_mem_cons.mpr ⟨lw_p33, List.forall_mem_cons.mpr ⟨lw_p34, List.forall_mem_cons.mpr ⟨lw_p35, List.forall_mem_cons.mpr ⟨lw_p36, List.forall_mem_cons.mpr ⟨lw_p37, List.forall_mem_cons.mpr ⟨lw_p38, List.forall_mem_cons.mpr ⟨lw_p39, List.forall_mem_cons.mpr ⟨lw_p40, List.forall_mem_cons.mpr ⟨lw_p41, List.forall_mem_cons.mpr ⟨lw_p42, List.forall_mem_cons.mpr ⟨lw_p43, List.forall_mem_cons.mpr ⟨lw_p44, List.forall_mem_cons.mpr ⟨lw_p45, List.forall_mem_cons.mpr ⟨lw_p46, List.forall_mem_cons.mpr ⟨lw_p47, fun _ h => absurd h List.not_mem_nil⟩⟩⟩⟩⟩⟩⟩⟩⟩⟩⟩⟩⟩⟩⟩⟩
theorem lw_p48 : lw_okq (⟨"UnitDeskModel", "tell", "(I)V"⟩, 45) := ⟨⟨by decide +kernel, by decide +kernel⟩, List.mem_of_getElem? (i := 918) (by decide +kernel), List.mem_of_getElem? (i := 1226) (by decide +kernel), List.mem_of_getElem? (i := 1227) (by decide +kernel)⟩
theorem lw_p49 : lw_okq (⟨"UnitDeskModel", "tellNumber", "(I)V"⟩, 45) := ⟨⟨by decide +kernel, by decide +kernel⟩, List.mem_of_getElem? (i := 918) (by decide +kernel), List.mem_of_getElem? (i := 1230) (by decide +kernel), List.mem_of_getElem? (i := 1231) (by decide +kernel)⟩
theorem lw_p50 : lw_okq (⟨"UnitDeskModel", "step", "()V"⟩, 45) := ⟨⟨by decide +kernel, by decide +kernel⟩, List.mem_of_getElem? (i := 918) (by decide +kernel), List.mem_of_getElem? (i := 1238) (by decide +kernel), List.mem_of_getElem? (i := 1239) (by decide +kernel)⟩
theorem lw_p51 : lw_okq (⟨"UnitDeskModel", "choose", "()I"⟩, 45) := ⟨⟨by decide +kernel, by decide +kernel⟩, List.mem_of_getElem? (i := 918) (by decide +kernel), List.mem_of_getElem? (i := 1242) (by decide +kernel), List.mem_of_getElem? (i := 1243) (by decide +kernel)⟩
theorem lw_p52 : lw_okq (⟨"UnitDeskModel", "longs", "()I"⟩, 45) := ⟨⟨by decide +kernel, by decide +kernel⟩, List.mem_of_getElem? (i := 918) (by decide +kernel), List.mem_of_getElem? (i := 1250) (by decide +kernel), List.mem_of_getElem? (i := 1251) (by decide +kernel)⟩
def lw_privs_4 : List (MethodName × Nat) := [(⟨"UnitDeskModel", "tell", "(I)V"⟩, 45), (⟨"UnitDeskModel", "tellNumber", "(I)V"⟩, 45), (⟨"UnitDeskModel", "step", "()V"⟩, 45), (⟨"UnitDeskModel", "choose", "()I"⟩, 45), (⟨"UnitDeskModel", "longs", "()I"⟩, 45)]
theorem lw_r4 : ∀ q ∈ lw_privs_4, lw_okq q := List.forall_mem_cons.mpr ⟨lw_p48, List.forall_mem_cons.mpr ⟨lw_p49, List.forall_mem_cons.mpr ⟨lw_p50, List.forall_mem_cons.mpr ⟨lw_p51, List.forall_mem_cons.mpr ⟨lw_p52, fun _ h => absurd h List.not_mem_nil⟩⟩⟩⟩⟩
def lw_privs : List (MethodName × Nat) := lw_privs_1 ++ (lw_privs_2 ++ (lw_privs_3 ++ (lw_privs_4)))
def lw_tbl : List Cond := k2_sels lw_privs ++ tables_1
theorem lw_privs_ok : ∀ q ∈ lw_privs, lw_okq q := by
  show ∀ q ∈ lw_privs_1 ++ (lw_privs_2 ++ (lw_privs_3 ++ (lw_privs_4))), lw_okq q
  exact List.forall_mem_append.mpr ⟨lw_r1, List.forall_mem_append.mpr ⟨lw_r2, List.forall_mem_append.mpr ⟨lw_r3, lw_r4⟩⟩⟩
-- ===== end of PART A; then your names; then what follows =====
end
section
/-! THE ENGINE: an abstract machine over named cells. A value is an int, or a name (kind, place); kind 0 is null. What it does, the machine does (part 03). -/
abbrev eg_V : Type := Int32 ⊕ (Nat × Nat)
abbrev eg_L : Type := List (Nat × eg_V)
abbrev eg_E : Type := Jvm.ClassFile.Instr × Nat × Nat × Nat
abbrev eg_C (S : Type) : Type := Nat × S × (Nat × Nat) × eg_L × List eg_V
abbrev eg_R (S : Type) : Type := eg_C S ⊕ ((Nat × List eg_V × Nat × List eg_V) ⊕ Option eg_V)
/-- a store: read, length, write, make, copy numbers from one array to another -/
abbrev eg_X (S : Type) : Type := (S → Nat → Nat → Nat → eg_V) × (S → Nat → Nat → Nat) × (S → Nat → Nat → Nat → eg_V → Option S) × (S → Nat → Nat → Option (S × Nat)) × (S → Nat × Nat → Nat → Nat × Nat → Nat → Nat → Option S)
/-- the tables of a program: its instructions; of a kind: class number, array type (1 int, 2 byte, 3 char, 4 boolean, 5 of references); statics; of a method: arguments, cells, slots; of a class: fields; of a field: type (1 int, 2 boolean, 3 a reference, 4 byte) -/
abbrev eg_T : Type := (Nat → Nat → Option eg_E) × (Nat → Nat) × (Nat → Nat) × (Nat → eg_V) × (Nat → Nat × Nat × Nat) × (Nat → Nat) × (Nat → Nat → Nat)
def eg_get : eg_L → Nat → Option eg_V
  | [], _ => none
  | q :: l, i => bif Nat.beq q.1 i then some q.2 else eg_get l i
def eg_put (l : eg_L) (i : Nat) (v : eg_V) : eg_L := (i, v) :: l.filter (fun q => !(Nat.beq q.1 i))
def eg_ent : Nat → List eg_V → eg_L
  | _, [] => []
  | n, v :: l => (n, v) :: eg_ent (n + 1) l
def eg_int : eg_V → Int32
  | .inl x => x
  | .inr _ => 0
def eg_ref : eg_V → Nat × Nat
  | .inl _ => (0, 0)
  | .inr q => q
def eg_geti (l : eg_L) (i : Nat) : Option eg_V := match eg_get l i with
  | some (.inl x) => some (.inl x)
  | _ => none
def eg_getr (l : eg_L) (i : Nat) : Option eg_V := match eg_get l i with
  | some (.inr q) => some (.inr q)
  | _ => none
def eg_inb (x : Int32) (n : Nat) : Bool := !(decide (x < 0)) && Nat.blt x.toNatClampNeg n
def eg_fit (t : Nat) (v : eg_V) : Bool := match v with
  | .inl x => Nat.beq t 1 || (Nat.beq t 2 && (decide (x = 0) || decide (x = 1))) || (Nat.beq t 4 && decide (x.toInt8.toInt32 = x))
  | .inr _ => Nat.beq t 3
def eg_same (q r : Nat × Nat) : Bool := Nat.beq q.2 r.2
def eg_un (f : Int32 → Int32) : List eg_V → Option (List eg_V)
  | .inl x :: r => some (.inl (f x) :: r)
  | _ => none
def eg_bin (f : Int32 → Int32 → Int32) : List eg_V → Option (List eg_V)
  | .inl y :: .inl x :: r => some (.inl (f x y) :: r)
  | _ => none
def eg_dup : List eg_V → Option (List eg_V)
  | a :: r => some (a :: a :: r)
  | _ => none
def eg_dx1 : List eg_V → Option (List eg_V)
  | a :: b :: r => some (a :: b :: a :: r)
  | _ => none
def eg_dx2 : List eg_V → Option (List eg_V)
  | a :: b :: d :: r => some (a :: b :: d :: a :: r)
  | _ => none
def eg_d2 : List eg_V → Option (List eg_V)
  | a :: b :: r => some (a :: b :: a :: b :: r)
  | _ => none
def eg_pop : List eg_V → Option (List eg_V)
  | _ :: r => some r
  | _ => none
def eg_tsw (pc : Nat) (d lo hi : Int) (offs : Array Int) (x : Int32) : Nat := if x.toInt < lo ∨ hi < x.toInt then ((pc : Int) + d).toNat else ((pc : Int) + (offs[(x.toInt - lo).toNat]?).getD 0).toNat
def eg_lsw (pc : Nat) (d : Int) (ps : Array (Int × Int)) (x : Int32) : Nat := ((pc : Int) + Op.lookupswitch.offset ps.toList d x.toInt).toNat
section EG
variable {S : Type}
abbrev eg_O (S : Type) : Type := Option (Bool × eg_R S)
def eg_stk (o : Option (List eg_V)) (pc : Nat) (σ : S) (u : Nat × Nat) (ls : eg_L) : eg_O S := match o with
  | some st => some (true, .inl (pc, σ, u, ls, st))
  | none => none
def eg_psh (o : Option eg_V) (pc : Nat) (σ : S) (u : Nat × Nat) (ls : eg_L) (st : List eg_V) : eg_O S := match o with
  | some v => some (true, .inl (pc, σ, u, ls, v :: st))
  | none => none
def eg_sti (i pc : Nat) (σ : S) (u : Nat × Nat) (ls : eg_L) (st : List eg_V) : eg_O S := match st with
  | .inl x :: r => some (true, .inl (pc, σ, u, eg_put ls i (.inl x), r))
  | _ => none
def eg_str (i pc : Nat) (σ : S) (u : Nat × Nat) (ls : eg_L) (st : List eg_V) : eg_O S := match st with
  | .inr q :: r => some (true, .inl (pc, σ, u, eg_put ls i (.inr q), r))
  | _ => none
def eg_inc (i : Nat) (n : Int) (pc : Nat) (σ : S) (u : Nat × Nat) (ls : eg_L) (st : List eg_V) : eg_O S := match eg_get ls i with
  | some (.inl x) => some (true, .inl (pc, σ, u, eg_put ls i (.inl (x + Int32.ofInt n)), st))
  | _ => none
def eg_b1 (f : Int32 → Bool) (t pc : Nat) (σ : S) (u : Nat × Nat) (ls : eg_L) (st : List eg_V) : eg_O S := match st with
  | .inl x :: r => some (true, .inl (bif f x then t else pc, σ, u, ls, r))
  | _ => none
def eg_b2 (f : Int32 → Int32 → Bool) (t pc : Nat) (σ : S) (u : Nat × Nat) (ls : eg_L) (st : List eg_V) : eg_O S := match st with
  | .inl y :: .inl x :: r => some (true, .inl (bif f x y then t else pc, σ, u, ls, r))
  | _ => none
def eg_bn (f : Nat × Nat → Bool) (t pc : Nat) (σ : S) (u : Nat × Nat) (ls : eg_L) (st : List eg_V) : eg_O S := match st with
  | .inr q :: r => bif Nat.beq q.1 1 then none else some (true, .inl (bif f q then t else pc, σ, u, ls, r))
  | _ => none
def eg_ba (f : Nat × Nat → Nat × Nat → Bool) (t pc : Nat) (σ : S) (u : Nat × Nat) (ls : eg_L) (st : List eg_V) : eg_O S := match st with
  | .inr y :: .inr x :: r => bif Nat.beq y.1 50 && Nat.beq x.1 50 then some (true, .inl (bif f x y then t else pc, σ, u, ls, r)) else none
  | _ => none
def eg_dv (f : Int32 → Int32 → Int32) (pc : Nat) (σ : S) (u : Nat × Nat) (ls : eg_L) (st : List eg_V) : eg_O S := match st with
  | .inl y :: .inl x :: r => some (!(decide (y = 0)), .inl (pc, σ, u, ls, .inl (f x y) :: r))
  | _ => none
/-- Math.max, Math.min -/
def eg_mm (f : Int32 → Int32 → Int32) (pc : Nat) (σ : S) (u : Nat × Nat) (ls : eg_L) (st : List eg_V) : eg_O S := match st with
  | .inl y :: .inl x :: r => bif Nat.ble r.length 8 then some (true, .inl (pc, σ, u, ls, .inl (f x y) :: r)) else none
  | _ => none
def eg_sw (f : Int32 → Nat) (σ : S) (u : Nat × Nat) (ls : eg_L) (st : List eg_V) : eg_O S := match st with
  | .inl x :: r => some (true, .inl (f x, σ, u, ls, r))
  | _ => none
variable (X : eg_X S) (T : eg_T)
def eg_gf (a b pc : Nat) (σ : S) (u : Nat × Nat) (ls : eg_L) (st : List eg_V) : eg_O S := match st with
  | .inr q :: r => bif Nat.beq (T.2.1 q.1) b then some (true, .inl (pc, σ, u, ls, X.1 σ q.1 q.2 a :: r)) else none
  | _ => none
def eg_pf (a b pc : Nat) (σ : S) (u : Nat × Nat) (ls : eg_L) (st : List eg_V) : eg_O S := match st with
  | v :: .inr q :: r => bif Nat.beq (T.2.1 q.1) b then (match X.2.2.1 σ q.1 q.2 a v with
    | some σ' => some (eg_fit (T.2.2.2.2.2.2 b a) v, .inl (pc, σ', u, ls, r))
    | none => none) else none
  | _ => none
/-- a load from an array of type t, of numbers -/
def eg_al (t pc : Nat) (σ : S) (u : Nat × Nat) (ls : eg_L) (st : List eg_V) : eg_O S := match st with
  | .inl x :: .inr q :: r => bif Nat.beq (T.2.2.1 q.1) t then some (eg_inb x (X.2.1 σ q.1 q.2), .inl (pc, σ, u, ls, .inl (eg_int (X.1 σ q.1 q.2 x.toNatClampNeg)) :: r)) else none
  | _ => none
def eg_ar (pc : Nat) (σ : S) (u : Nat × Nat) (ls : eg_L) (st : List eg_V) : eg_O S := match st with
  | .inl x :: .inr q :: r => bif Nat.beq (T.2.2.1 q.1) 5 then some (eg_inb x (X.2.1 σ q.1 q.2), .inl (pc, σ, u, ls, .inr (eg_ref (X.1 σ q.1 q.2 x.toNatClampNeg)) :: r)) else none
  | _ => none
def eg_as (t : Nat) (f : Int32 → Int32) (pc : Nat) (σ : S) (u : Nat × Nat) (ls : eg_L) (st : List eg_V) : eg_O S := match st with
  | .inl v :: .inl x :: .inr q :: r => bif Nat.beq (T.2.2.1 q.1) t then (match X.2.2.1 σ q.1 q.2 x.toNatClampNeg (.inl (f v)) with
    | some σ' => some (eg_inb x (X.2.1 σ q.1 q.2), .inl (pc, σ', u, ls, r))
    | none => none) else none
  | _ => none
def eg_len (pc : Nat) (σ : S) (u : Nat × Nat) (ls : eg_L) (st : List eg_V) : eg_O S := match st with
  | .inr q :: r => bif Nat.beq (T.2.2.1 q.1) 0 then none else some (true, .inl (pc, σ, u, ls, .inl (Int32.ofNat (X.2.1 σ q.1 q.2)) :: r))
  | _ => none
/-- an object of kind a is made -/
def eg_new (a mi pc : Nat) (σ : S) (u : Nat × Nat) (ls : eg_L) (st : List eg_V) : eg_O S := match X.2.2.2.1 σ a 0 with
  | some (σ', i) => some (Nat.ble (u.1 + 1) (T.2.2.2.2.1 mi).2.1 && Nat.ble (u.2 + T.2.2.2.2.2.1 (T.2.1 a)) (T.2.2.2.2.1 mi).2.2, .inl (pc, σ', (u.1 + 1, u.2 + T.2.2.2.2.2.1 (T.2.1 a)), ls, .inr (a, i) :: st))
  | none => none
/-- an array of kind a is made -/
def eg_newa (a mi pc : Nat) (σ : S) (u : Nat × Nat) (ls : eg_L) (st : List eg_V) : eg_O S := match st with
  | .inl x :: r => (match X.2.2.2.1 σ a x.toNatClampNeg with
    | some (σ', i) => some (!(decide (x < 0)) && (Nat.ble x.toNatClampNeg 65536 && (Nat.ble (u.1 + 1) (T.2.2.2.2.1 mi).2.1 && Nat.ble (u.2 + x.toNatClampNeg) (T.2.2.2.2.1 mi).2.2)), .inl (pc, σ', (u.1 + 1, u.2 + x.toNatClampNeg), ls, .inr (a, i) :: r))
    | none => none)
  | _ => none
def eg_ast (a b pc : Nat) (σ : S) (u : Nat × Nat) (ls : eg_L) (st : List eg_V) : eg_O S := match st with
  | .inr v :: .inl x :: .inr q :: r => bif Nat.beq (T.2.1 v.1) a && Nat.beq q.1 b then (match X.2.2.1 σ q.1 q.2 x.toNatClampNeg (.inr v) with
    | some σ' => some (eg_inb x (X.2.1 σ q.1 q.2), .inl (pc, σ', u, ls, r))
    | none => none) else none
  | _ => none
/-- Object.<init> -/
def eg_oi (pc : Nat) (σ : S) (u : Nat × Nat) (ls : eg_L) (st : List eg_V) : eg_O S := match st with
  | .inr q :: r => bif !(Nat.beq (T.2.1 q.1) 0) && Nat.ble r.length 8 then some (true, .inl (pc, σ, u, ls, r)) else none
  | _ => none
/-- an answer of the method's type: 1 int, 2 boolean, 3 char, 4 byte -/
def eg_rf (a : Nat) (x : Int32) : Bool := Nat.beq a 1 || (Nat.beq a 2 && (decide (x = 0) || decide (x = 1))) || (Nat.beq a 3 && decide (x.toUInt32.toUInt16.toUInt32.toInt32 = x)) || (Nat.beq a 4 && decide (x.toInt8.toInt32 = x))
def eg_ri (a : Nat) (st : List eg_V) : eg_O S := match st with
  | [.inl x] => some (eg_rf a x, .inr (.inr (some (.inl x))))
  | _ => none
def eg_ra (st : List eg_V) : eg_O S := match st with
  | [.inr q] => some (true, .inr (.inr (some (.inr q))))
  | _ => none
def eg_rv (st : List eg_V) : eg_O S := match st with
  | [] => some (true, .inr (.inr none))
  | _ => none
/-- are they bytes -/
def eg_byt (σ : S) (q : Nat × Nat) (sp n : Nat) : Bool := (List.range n).all (fun i => decide ((eg_int (X.1 σ q.1 q.2 (sp + i))).toInt8.toInt32 = eg_int (X.1 σ q.1 q.2 (sp + i))))
/-- System.arraycopy of bytes -/
def eg_cpy (pc : Nat) (σ : S) (u : Nat × Nat) (ls : eg_L) (st : List eg_V) : eg_O S := match st with
  | .inl n :: .inl dp :: .inr d :: .inl sp :: .inr q :: r => bif Nat.beq (T.2.2.1 d.1) 2 && Nat.beq (T.2.2.1 q.1) 2 then (match X.2.2.2.2 σ q sp.toNatClampNeg d dp.toNatClampNeg n.toNatClampNeg with
    | some σ' => some (!(decide (n < 0)) && (!(decide (sp < 0)) && (!(decide (dp < 0)) && (Nat.ble (sp.toNatClampNeg + n.toNatClampNeg) (X.2.1 σ q.1 q.2) && (Nat.ble (dp.toNatClampNeg + n.toNatClampNeg) (X.2.1 σ d.1 d.2) && (Nat.ble r.length 8 && eg_byt X σ q sp.toNatClampNeg n.toNatClampNeg))))), .inl (pc, σ', u, ls, r))
    | none => none) else none
  | _ => none
def eg_rcv (b : Nat) (st : List eg_V) : Bool := match st with
  | .inr q :: _ => Nat.beq (T.2.1 q.1) b
  | _ => false
/-- a call of method j, whose receiver is of class b (0: nobody asks) -/
def eg_call (j b mi pc : Nat) (u : Nat × Nat) (st : List eg_V) : eg_O S :=
  bif Nat.ble (T.2.2.2.2.1 j).1 st.length && (Nat.beq b 0 || eg_rcv T b (st.drop ((T.2.2.2.2.1 j).1 - 1))) then
    some (Nat.ble (st.length - (T.2.2.2.2.1 j).1) 8 && (Nat.ble (u.1 + (T.2.2.2.2.1 j).2.1) (T.2.2.2.2.1 mi).2.1 && Nat.ble (u.2 + (T.2.2.2.2.1 j).2.2) (T.2.2.2.2.1 mi).2.2), .inr (.inl (j, (st.take (T.2.2.2.2.1 j).1).reverse, pc, st.drop (T.2.2.2.2.1 j).1)))
  else none
def eg_do (I : Jvm.ClassFile.Instr) (a b mi pc : Nat) (σ : S) (u : Nat × Nat) (ls : eg_L) (st : List eg_V) : eg_O S := match I with
  | .iconst n => some (true, .inl (pc + 1, σ, u, ls, .inl (Int32.ofInt n) :: st))
  | .bipush n => some (true, .inl (pc + 2, σ, u, ls, .inl (Int8.ofInt n).toInt32 :: st))
  | .sipush n => some (true, .inl (pc + 3, σ, u, ls, .inl (Int16.ofInt n).toInt32 :: st))
  | .ldc _ => some (true, .inl (pc + 2, σ, u, ls, (bif Nat.beq b 0 then .inl (Int32.ofNat a) else .inr (b, a)) :: st))
  | .aconst_null => some (true, .inl (pc + 1, σ, u, ls, .inr (0, 0) :: st))
  | .iload_n k => eg_psh (eg_geti ls k) (pc + 1) σ u ls st
  | .iload k => eg_psh (eg_geti ls k) (pc + 2) σ u ls st
  | .aload_n k => eg_psh (eg_getr ls k) (pc + 1) σ u ls st
  | .aload k => eg_psh (eg_getr ls k) (pc + 2) σ u ls st
  | .istore_n k => eg_sti k (pc + 1) σ u ls st
  | .istore k => eg_sti k (pc + 2) σ u ls st
  | .astore_n k => eg_str k (pc + 1) σ u ls st
  | .astore k => eg_str k (pc + 2) σ u ls st
  | .iinc i n => eg_inc i n (pc + 3) σ u ls st
  | .iadd => eg_stk (eg_bin (fun x y => x + y) st) (pc + 1) σ u ls
  | .isub => eg_stk (eg_bin (fun x y => x - y) st) (pc + 1) σ u ls
  | .imul => eg_stk (eg_bin (fun x y => x * y) st) (pc + 1) σ u ls
  | .iand => eg_stk (eg_bin (fun x y => x &&& y) st) (pc + 1) σ u ls
  | .ior => eg_stk (eg_bin (fun x y => x ||| y) st) (pc + 1) σ u ls
  | .ixor => eg_stk (eg_bin (fun x y => x ^^^ y) st) (pc + 1) σ u ls
  | .ishl => eg_stk (eg_bin (fun x y => x <<< (y &&& 31)) st) (pc + 1) σ u ls
  | .ishr => eg_stk (eg_bin (fun x y => x >>> (y &&& 31)) st) (pc + 1) σ u ls
  | .iushr => eg_stk (eg_bin (fun x y => (x.toUInt32 >>> (y.toUInt32 &&& Int32.toUInt32 31)).toInt32) st) (pc + 1) σ u ls
  | .ineg => eg_stk (eg_un (fun x => -x) st) (pc + 1) σ u ls
  | .i2b => eg_stk (eg_un (fun x => x.toInt8.toInt32) st) (pc + 1) σ u ls
  | .i2s => eg_stk (eg_un (fun x => x.toInt16.toInt32) st) (pc + 1) σ u ls
  | .i2c => eg_stk (eg_un (fun x => (x.toUInt32 % 65536).toInt32) st) (pc + 1) σ u ls
  | .idiv => eg_dv (fun x y => x / y) (pc + 1) σ u ls st
  | .irem => eg_dv (fun x y => x - x / y * y) (pc + 1) σ u ls st
  | .dup => eg_stk (eg_dup st) (pc + 1) σ u ls
  | .dup_x1 => eg_stk (eg_dx1 st) (pc + 1) σ u ls
  | .dup_x2 => eg_stk (eg_dx2 st) (pc + 1) σ u ls
  | .dup2 => eg_stk (eg_d2 st) (pc + 1) σ u ls
  | .pop => eg_stk (eg_pop st) (pc + 1) σ u ls
  | .ifCond .eq _ => eg_b1 (fun x => decide (x = 0)) a (pc + 3) σ u ls st
  | .ifCond .ne _ => eg_b1 (fun x => !(decide (x = 0))) a (pc + 3) σ u ls st
  | .ifCond .lt _ => eg_b1 (fun x => decide (x < 0)) a (pc + 3) σ u ls st
  | .ifCond .ge _ => eg_b1 (fun x => decide (0 ≤ x)) a (pc + 3) σ u ls st
  | .ifCond .gt _ => eg_b1 (fun x => decide (0 < x)) a (pc + 3) σ u ls st
  | .ifCond .le _ => eg_b1 (fun x => decide (x ≤ 0)) a (pc + 3) σ u ls st
  | .if_icmp .eq _ => eg_b2 (fun x y => decide (x = y)) a (pc + 3) σ u ls st
  | .if_icmp .ne _ => eg_b2 (fun x y => !(decide (x = y))) a (pc + 3) σ u ls st
  | .if_icmp .lt _ => eg_b2 (fun x y => decide (x < y)) a (pc + 3) σ u ls st
  | .if_icmp .ge _ => eg_b2 (fun x y => decide (y ≤ x)) a (pc + 3) σ u ls st
  | .if_icmp .gt _ => eg_b2 (fun x y => decide (y < x)) a (pc + 3) σ u ls st
  | .if_icmp .le _ => eg_b2 (fun x y => decide (x ≤ y)) a (pc + 3) σ u ls st
  | .ifnull _ => eg_bn (fun q => Nat.beq q.1 0) a (pc + 3) σ u ls st
  | .ifnonnull _ => eg_bn (fun q => !(Nat.beq q.1 0)) a (pc + 3) σ u ls st
  | .if_acmp .eq _ => eg_ba eg_same a (pc + 3) σ u ls st
  | .if_acmp .ne _ => eg_ba (fun x y => !(eg_same x y)) a (pc + 3) σ u ls st
  | .goto _ => some (true, .inl (a, σ, u, ls, st))
  | .tableswitch d lo hi offs => eg_sw (eg_tsw pc d lo hi offs) σ u ls st
  | .lookupswitch d ps => eg_sw (eg_lsw pc d ps) σ u ls st
  | .getfield _ => eg_gf X T a b (pc + 3) σ u ls st
  | .putfield _ => eg_pf X T a b (pc + 3) σ u ls st
  | .getstatic _ => some (true, .inl (pc + 3, σ, u, ls, T.2.2.2.1 a :: st))
  | .iaload => eg_al X T 1 (pc + 1) σ u ls st
  | .baload => eg_al X T a (pc + 1) σ u ls st
  | .caload => eg_al X T 3 (pc + 1) σ u ls st
  | .aaload => eg_ar X T (pc + 1) σ u ls st
  | .iastore => eg_as X T 1 (fun x => x) (pc + 1) σ u ls st
  | .bastore => bif Nat.beq a 4 then eg_as X T 4 (fun x => x &&& 1) (pc + 1) σ u ls st else eg_as X T 2 (fun x => x.toInt8.toInt32) (pc + 1) σ u ls st
  | .aastore => eg_ast X T a b (pc + 1) σ u ls st
  | .new _ => eg_new X T a mi (pc + 3) σ u ls st
  | .newarray _ => eg_newa X T a mi (pc + 2) σ u ls st
  | .anewarray _ => eg_newa X T a mi (pc + 3) σ u ls st
  | .arraylength => eg_len X T (pc + 1) σ u ls st
  | .invokevirtual _ => eg_call T a b mi (pc + 3) u st
  | .invokestatic _ => bif Nat.beq b 99 then eg_cpy X T (pc + 3) σ u ls st else bif Nat.beq b 98 then eg_mm (fun x y => if x < y then y else x) (pc + 3) σ u ls st else bif Nat.beq b 97 then eg_mm (fun x y => if y < x then y else x) (pc + 3) σ u ls st else eg_call T a 0 mi (pc + 3) u st
  | .invokespecial _ => bif Nat.beq b 99 then eg_oi T (pc + 3) σ u ls st else eg_call T a b mi (pc + 3) u st
  | .ireturn => eg_ri a st
  | .areturn => eg_ra st
  | .return_ => eg_rv st
  | _ => none
def eg_step (mi pc : Nat) (σ : S) (u : Nat × Nat) (ls : eg_L) (st : List eg_V) : eg_O S := match T.1 mi pc with
  | some (I, _, a, b) => eg_do X T I a b mi pc σ u ls st
  | none => none
def eg_ip : Nat → Nat → Nat → S → Nat × Nat → eg_L → List eg_V → Option (S × Option eg_V)
  | 0, _, _, _, _, _, _ => none
  | n + 1, mi, pc, σ, u, ls, st => match eg_step X T mi pc σ u ls st with
    | some (true, .inl (pc', σ', u', ls', st')) => eg_ip n mi pc' σ' u' ls' st'
    | some (true, .inr (.inl (j, av, pc', st'))) => (match eg_ip n j 0 σ (0, 0) (eg_ent 0 av) [] with
      | some (σ', r) => eg_ip n mi pc' σ' (u.1 + (T.2.2.2.2.1 j).2.1, u.2 + (T.2.2.2.2.1 j).2.2) ls (r.toList ++ st')
      | none => none)
    | some (true, .inr (.inr r)) => some (σ, r)
    | _ => none
end EG
end
section
/-! RUNS of the engine: more steps do no harm; rules -/
section EGV
variable {S : Type} (X : eg_X S) (T : eg_T)
theorem eg_ip_succ : ∀ (n mi pc : Nat) (σ : S) (u : Nat × Nat) (ls : eg_L) (st : List eg_V) (x : S × Option eg_V), eg_ip X T n mi pc σ u ls st = some x → eg_ip X T (n + 1) mi pc σ u ls st = some x := by
  intro n
  induction n with
  | zero => intro mi pc σ u ls st x h; simp [eg_ip] at h
  | succ n ih =>
    intro mi pc σ u ls st x h
    rw [eg_ip] at h ⊢
    split at h
    · exact ih _ _ _ _ _ _ _ h
    · split at h
      · rename_i h2
        rw [ih _ _ _ _ _ _ _ h2]
        exact ih _ _ _ _ _ _ _ h
      · cases h
    · exact h
    · cases h
theorem eg_ip_le {n k mi pc : Nat} {σ : S} {u : Nat × Nat} {ls : eg_L} {st : List eg_V} {x : S × Option eg_V} (h : eg_ip X T n mi pc σ u ls st = some x) (hk : n ≤ k) : eg_ip X T k mi pc σ u ls st = some x := by
  induction hk with
  | refl => exact h
  | step _ ih => exact eg_ip_succ X T _ _ _ _ _ _ _ _ ih
/-- from here the method comes to its end with store σ' and answer r -/
def eg_ev (mi pc : Nat) (σ : S) (u : Nat × Nat) (ls : eg_L) (st : List eg_V) (σ' : S) (r : Option eg_V) : Prop := ∃ n, eg_ip X T n mi pc σ u ls st = some (σ', r)
variable {X T}
theorem eg_ev_nx {mi pc pc' : Nat} {σ σ1 σ' : S} {u u' : Nat × Nat} {ls ls' : eg_L} {st st' : List eg_V} {r : Option eg_V} (h : eg_step X T mi pc σ u ls st = some (true, .inl (pc', σ1, u', ls', st'))) (k : eg_ev X T mi pc' σ1 u' ls' st' σ' r) : eg_ev X T mi pc σ u ls st σ' r := by
  obtain ⟨n, hn⟩ := k
  exact ⟨n + 1, by rw [eg_ip, h]; exact hn⟩
theorem eg_ev_call {mi pc pc' j : Nat} {σ σ1 σ' : S} {u : Nat × Nat} {ls : eg_L} {st st' av : List eg_V} {r r1 : Option eg_V} (h : eg_step X T mi pc σ u ls st = some (true, .inr (.inl (j, av, pc', st')))) (k1 : eg_ev X T j 0 σ (0, 0) (eg_ent 0 av) [] σ1 r1) (k : eg_ev X T mi pc' σ1 (u.1 + (T.2.2.2.2.1 j).2.1, u.2 + (T.2.2.2.2.1 j).2.2) ls (r1.toList ++ st') σ' r) : eg_ev X T mi pc σ u ls st σ' r := by
  obtain ⟨n1, h1⟩ := k1
  obtain ⟨n, hn⟩ := k
  refine ⟨max n1 n + 1, ?_⟩
  rw [eg_ip, h]
  dsimp only
  rw [eg_ip_le X T h1 (Nat.le_max_left _ _)]
  exact eg_ip_le X T hn (Nat.le_max_right _ _)
theorem eg_ev_ret {mi pc : Nat} {σ : S} {u : Nat × Nat} {ls : eg_L} {st : List eg_V} {r : Option eg_V} (h : eg_step X T mi pc σ u ls st = some (true, .inr (.inr r))) : eg_ev X T mi pc σ u ls st σ r := ⟨1, by rw [eg_ip, h]⟩
variable (X T)
/-- n steps without a call; what they ask for (places in their arrays, divisors) is told, not looked at -/
def eg_run : Nat → Nat → Nat → S → Nat × Nat → eg_L → List eg_V → Option (Bool × eg_C S)
  | 0, _, pc, σ, u, ls, st => some (true, (pc, σ, u, ls, st))
  | n + 1, mi, pc, σ, u, ls, st => match eg_step X T mi pc σ u ls st with
    | some (g, .inl (pc', σ', u', ls', st')) => (match eg_run n mi pc' σ' u' ls' st' with
      | some (g', c) => some (g && g', c)
      | none => none)
    | _ => none
variable {X T}
theorem eg_ev_run : ∀ (n : Nat) {mi pc pc' : Nat} {σ σ1 σ' : S} {u u' : Nat × Nat} {ls ls' : eg_L} {st st' : List eg_V} {r : Option eg_V} {g : Bool}, eg_run X T n mi pc σ u ls st = some (g, (pc', σ1, u', ls', st')) → g = true → eg_ev X T mi pc' σ1 u' ls' st' σ' r → eg_ev X T mi pc σ u ls st σ' r := by
  intro n
  induction n with
  | zero =>
    intro mi pc pc' σ σ1 σ' u u' ls ls' st st' r g h hg k
    simp only [eg_run, Option.some.injEq, Prod.mk.injEq] at h
    obtain ⟨-, rfl, rfl, rfl, rfl, rfl⟩ := h
    exact k
  | succ n ih =>
    intro mi pc pc' σ σ1 σ' u u' ls ls' st st' r g h hg k
    rw [eg_run] at h
    split at h
    · rename_i g1 pc1 s1 u1 l1 t1 h1
      split at h
      · rename_i g2 c2 h2
        simp only [Option.some.injEq, Prod.mk.injEq] at h
        obtain ⟨h3, rfl⟩ := h
        subst h3
        simp only [Bool.and_eq_true] at hg
        obtain ⟨hg1, hg2⟩ := hg
        subst hg1
        exact eg_ev_nx h1 (ih h2 hg2 k)
      · cases h
    · cases h
theorem eg_ev_if {mi t f : Nat} {b : Bool} {σ σ' : S} {u : Nat × Nat} {ls : eg_L} {st : List eg_V} {r : Option eg_V} (ht : b = true → eg_ev X T mi t σ u ls st σ' r) (hf : b = false → eg_ev X T mi f σ u ls st σ' r) : eg_ev X T mi (bif b then t else f) σ u ls st σ' r := by
  cases b
  · exact hf rfl
  · exact ht rfl
end EGV
end
section
/-! THE PROGRAM, as tables (printed by wip/whole/tools/tables.py out of the Statement): a method is a number, an instruction (its length, two numbers of its site) -/
def tr_0 : Nat → Option eg_E := fun _ => none
def tr_l (k : Nat) (e : eg_E) : Nat → Option eg_E := fun pc => bif Nat.beq pc k then some e else none
def tr_n (k : Nat) (l r : Nat → Option eg_E) : Nat → Option eg_E := fun pc => bif Nat.ble pc k then l pc else r pc
abbrev n_U_init : Nat := 1
abbrev n_Draft_init : Nat := 2
abbrev n_Text_init : Nat := 3
abbrev n_Labels_init : Nat := 4
abbrev n_Item_init : Nat := 5
abbrev n_Code_init : Nat := 6
abbrev n_Reading_init : Nat := 7
abbrev n_Machine_init : Nat := 8
abbrev n_U_put : Nat := 9
abbrev n_Draft_append : Nat := 10
abbrev n_U_line : Nat := 11
abbrev n_Draft_partIntoWords : Nat := 12
abbrev n_U_takeLine : Nat := 13
abbrev n_Draft_labelName : Nat := 14
abbrev n_Text_standLabel : Nat := 15
abbrev n_Labels_findOrAdd : Nat := 16
abbrev n_Labels_find : Nat := 17
abbrev n_Text_layOut : Nat := 18
abbrev n_Text_shortenJumps : Nat := 19
abbrev n_Text_placeItems : Nat := 20
abbrev n_Item_unitCount : Nat := 21
abbrev n_Item_form : Nat := 22
abbrev n_Text_lengthenJumps : Nat := 23
abbrev n_Text_reachesShort : Nat := 24
abbrev n_Text_addressOf : Nat := 25
abbrev n_Draft_kindOfFirstWord : Nat := 26
abbrev n_Draft_firstWordIs : Nat := 27
abbrev n_Text_spare : Nat := 28
abbrev n_Item_begin : Nat := 29
abbrev n_U_takeArguments : Nat := 30
abbrev n_Kind_leastArguments : Nat := 31
abbrev n_Kind_mostArguments : Nat := 32
abbrev n_Kind_argument : Nat := 33
abbrev n_U_takeArgument : Nat := 34
abbrev n_Draft_number : Nat := 35
abbrev n_Draft_digits : Nat := 36
abbrev n_Item_takeNumber : Nat := 37
abbrev n_Kind_holdsNumber : Nat := 38
abbrev n_Item_takeName : Nat := 39
abbrev n_Draft_register : Nat := 40
abbrev n_Item_takeRegister : Nat := 41
abbrev n_Text_keepSpare : Nat := 42
abbrev n_Labels_addAllOf : Nat := 43
abbrev n_U_clear : Nat := 44
abbrev n_Text_empty : Nat := 45
abbrev n_U_assemble : Nat := 46
abbrev n_Text_allLabelsAreSet : Nat := 47
abbrev n_Labels_allAreSet : Nat := 48
abbrev n_Text_allTablesMeanCases : Nat := 49
abbrev n_Text_standsBeforeCases : Nat := 50
abbrev n_Text_writeTo : Nat := 51
abbrev n_Code_append : Nat := 52
abbrev n_Text_writeCases : Nat := 53
abbrev n_Text_writeBits : Nat := 54
abbrev n_Kind_fieldBits : Nat := 55
abbrev n_Machine_startAnew : Nat := 56
abbrev n_U_item : Nat := 57
abbrev n_U_unit : Nat := 58
abbrev n_Code_has : Nat := 59
abbrev n_U_set : Nat := 60
abbrev n_U_read : Nat := 61
abbrev n_Reading_canRead : Nat := 62
abbrev n_Reading_kindOf : Nat := 63
abbrev n_Reading_canReadCases : Nat := 64
abbrev n_Reading_canReadBits : Nat := 65
abbrev n_Kind_fieldOf : Nat := 66
abbrev n_Reading_part : Nat := 67
abbrev n_Kind_has : Nat := 68
abbrev n_Reading_goal : Nat := 69
abbrev n_Reading_caseDistance : Nat := 70
abbrev n_U_check : Nat := 71
abbrev n_Code_markBeginnings : Nat := 72
abbrev n_Code_strays : Nat := 73
abbrev n_U_told : Nat := 74
abbrev n_Reading_tell : Nat := 75
abbrev n_Reading_tellArgument : Nat := 76
abbrev n_Reading_tellCases : Nat := 77
abbrev n_U_run : Nat := 78
abbrev n_Machine_goOn : Nat := 79
abbrev n_Machine_calculate : Nat := 80
abbrev n_Machine_moveOn : Nat := 81
abbrev n_Machine_tableDistance : Nat := 82
abbrev n_Machine_leaps : Nat := 83
abbrev n_U_state : Nat := 84
abbrev n_M_init : Nat := 85
abbrev n_M_put : Nat := 86
abbrev n_M_in : Nat := 87
abbrev n_M_line : Nat := 88
abbrev n_M_part : Nat := 89
abbrev n_M_lineRead : Nat := 90
abbrev n_M_labelIn : Nat := 91
abbrev n_M_letters : Nat := 92
abbrev n_M_setLabel : Nat := 93
abbrev n_M_find : Nat := 94
abbrev n_M_named : Nat := 95
abbrev n_M_opNamed : Nat := 96
abbrev n_M_nameOf : Nat := 97
abbrev n_M_readLine : Nat := 98
abbrev n_M_registersOf : Nat := 99
abbrev n_M_numberOf : Nat := 100
abbrev n_M_labelsOf : Nat := 101
abbrev n_M_registerIn : Nat := 102
abbrev n_M_digits : Nat := 103
abbrev n_M_numberIn : Nat := 104
abbrev n_M_newNames : Nat := 105
abbrev n_M_clear : Nat := 106
abbrev n_M_assemble : Nat := 107
abbrev n_M_settle : Nat := 108
abbrev n_M_layOut : Nat := 109
abbrev n_M_sizeOf : Nat := 110
abbrev n_M_distance : Nat := 111
abbrev n_M_meaning : Nat := 112
abbrev n_M_isCasesAt : Nat := 113
abbrev n_M_write : Nat := 114
abbrev n_M_rest : Nat := 115
abbrev n_M_item : Nat := 116
abbrev n_M_unit : Nat := 117
abbrev n_M_set : Nat := 118
abbrev n_M_read : Nat := 119
abbrev n_M_look : Nat := 120
abbrev n_M_signed : Nat := 121
abbrev n_M_caseAt : Nat := 122
abbrev n_M_check : Nat := 123
abbrev n_M_told : Nat := 124
abbrev n_M_letter : Nat := 125
abbrev n_M_tellRegister : Nat := 126
abbrev n_M_tell : Nat := 127
abbrev n_M_tellNumber : Nat := 128
abbrev n_M_run : Nat := 129
abbrev n_M_step : Nat := 130
abbrev n_M_choose : Nat := 131
abbrev n_M_state : Nat := 132
abbrev n_M_longs : Nat := 133
abbrev n_L_law : Nat := 134
abbrev n_String_length : Nat := 135
abbrev n_String_coder : Nat := 136
abbrev n_String_charAt : Nat := 137
abbrev n_String_isLatin1 : Nat := 138
abbrev n_String_indexOf : Nat := 139
abbrev n_String_indexOf2 : Nat := 140
abbrev n_String_getBytes : Nat := 141
abbrev n_String_checkIndex : Nat := 142
abbrev n_StringLatin1_charAt : Nat := 143
abbrev n_StringLatin1_indexOf : Nat := 144
abbrev n_StringLatin1_canEncode : Nat := 145
abbrev n_StringLatin1_canEncode2 : Nat := 146
abbrev n_StringLatin1_indexOfChar : Nat := 147
abbrev n_Preconditions_checkIndex : Nat := 148
abbrev n_SB_init : Nat := 149
abbrev n_SB_append : Nat := 150
abbrev n_SB_append2 : Nat := 151
abbrev n_SB_append3 : Nat := 152
abbrev n_SB_charAt : Nat := 153
abbrev n_SB_length : Nat := 154
abbrev n_SB_setLength : Nat := 155
abbrev n_ASB_init : Nat := 156
abbrev n_ASB_append : Nat := 157
abbrev n_ASB_append2 : Nat := 158
abbrev n_ASB_append3 : Nat := 159
abbrev n_ASB_charAt : Nat := 160
abbrev n_ASB_ensureCapacityInternal : Nat := 161
abbrev n_ASB_newCapacity : Nat := 162
abbrev n_ASB_isLatin1 : Nat := 163
abbrev n_ASB_length : Nat := 164
abbrev n_ASB_putStringAt : Nat := 165
abbrev n_ASB_inflateIfNeededFor : Nat := 166
abbrev n_ASB_setLength : Nat := 167
abbrev n_ArraysSupport_newLength : Nat := 168
abbrev n_Arrays_copyOf : Nat := 169
abbrev n_Integer_stringSize : Nat := 170
abbrev n_Integer_getChars : Nat := 171
abbrev n_Enum_ordinal : Nat := 172
def c_U_init : Nat → Option eg_E := (tr_n 31 (tr_n 15 (tr_n 5 (tr_n 1 (tr_n 0 (tr_l 0 (.aload_n 0, 1, 0, 0)) (tr_l 1 (.invokespecial 3, 3, 0, 99))) (tr_n 4 (tr_l 4 (.aload_n 0, 1, 0, 0)) (tr_l 5 (.new 9, 3, 3, 0)))) (tr_n 9 (tr_n 8 (tr_l 8 (.dup, 1, 0, 0)) (tr_l 9 (.invokespecial 11, 3, 2, 2))) (tr_n 12 (tr_l 12 (.putfield 12, 3, 0, 1)) (tr_l 15 (.aload_n 0, 1, 0, 0))))) (tr_n 23 (tr_n 19 (tr_n 16 (tr_l 16 (.new 18, 3, 7, 0)) (tr_l 19 (.dup, 1, 0, 0))) (tr_n 20 (tr_l 20 (.invokespecial 20, 3, 3, 3)) (tr_l 23 (.putfield 21, 3, 1, 1)))) (tr_n 27 (tr_n 26 (tr_l 26 (.aload_n 0, 1, 0, 0)) (tr_l 27 (.new 25, 3, 16, 0))) (tr_n 30 (tr_l 30 (.dup, 1, 0, 0)) (tr_l 31 (.invokespecial 27, 3, 6, 6)))))) (tr_n 49 (tr_n 41 (tr_n 37 (tr_n 34 (tr_l 34 (.putfield 28, 3, 2, 1)) (tr_l 37 (.aload_n 0, 1, 0, 0))) (tr_n 38 (tr_l 38 (.new 32, 3, 19, 0)) (tr_l 41 (.dup, 1, 0, 0)))) (tr_n 45 (tr_n 42 (tr_l 42 (.invokespecial 34, 3, 7, 7)) (tr_l 45 (.putfield 35, 3, 3, 1))) (tr_n 48 (tr_l 48 (.aload_n 0, 1, 0, 0)) (tr_l 49 (.new 39, 3, 22, 0))))) (tr_n 59 (tr_n 53 (tr_n 52 (tr_l 52 (.dup, 1, 0, 0)) (tr_l 53 (.invokespecial 41, 3, 8, 8))) (tr_n 56 (tr_l 56 (.putfield 42, 3, 4, 1)) (tr_l 59 (.aload_n 0, 1, 0, 0)))) (tr_n 63 (tr_n 60 (tr_l 60 (.new 46, 3, 24, 0)) (tr_l 63 (.dup, 1, 0, 0))) (tr_n 64 (tr_l 64 (.invokespecial 48, 3, 149, 10)) (tr_n 67 (tr_l 67 (.putfield 49, 3, 5, 1)) (tr_l 70 (.return_, 1, 0, 0))))))))
def c_Draft_init : Nat → Option eg_E := (tr_n 12 (tr_n 4 (tr_n 0 (tr_l 0 (.aload_n 0, 1, 0, 0)) (tr_n 1 (tr_l 1 (.invokespecial 3, 3, 0, 99)) (tr_l 4 (.aload_n 0, 1, 0, 0)))) (tr_n 7 (tr_n 5 (tr_l 5 (.bipush 40, 2, 0, 0)) (tr_l 7 (.newarray .int, 2, 4, 0))) (tr_n 9 (tr_l 9 (.putfield 9, 3, 0, 2)) (tr_l 12 (.aload_n 0, 1, 0, 0))))) (tr_n 20 (tr_n 15 (tr_n 13 (tr_l 13 (.bipush 40, 2, 0, 0)) (tr_l 15 (.newarray .int, 2, 5, 0))) (tr_n 17 (tr_l 17 (.putfield 15, 3, 2, 2)) (tr_l 20 (.aload_n 0, 1, 0, 0)))) (tr_n 23 (tr_n 21 (tr_l 21 (.bipush 40, 2, 0, 0)) (tr_l 23 (.newarray .int, 2, 6, 0))) (tr_n 25 (tr_l 25 (.putfield 18, 3, 3, 2)) (tr_l 28 (.return_, 1, 0, 0))))))
def c_Text_init : Nat → Option eg_E := (tr_n 26 (tr_n 13 (tr_n 4 (tr_n 0 (tr_l 0 (.aload_n 0, 1, 0, 0)) (tr_n 1 (tr_l 1 (.invokespecial 3, 3, 0, 99)) (tr_l 4 (.aload_n 0, 1, 0, 0)))) (tr_n 7 (tr_n 5 (tr_l 5 (.bipush 41, 2, 0, 0)) (tr_l 7 (.anewarray 9, 3, 8, 0))) (tr_n 10 (tr_l 10 (.putfield 11, 3, 0, 3)) (tr_l 13 (.aload_n 0, 1, 0, 0))))) (tr_n 18 (tr_n 14 (tr_l 14 (.new 17, 3, 13, 0)) (tr_n 17 (tr_l 17 (.dup, 1, 0, 0)) (tr_l 18 (.invokespecial 19, 3, 4, 5)))) (tr_n 24 (tr_n 21 (tr_l 21 (.putfield 20, 3, 2, 3)) (tr_l 24 (.iconst 0, 1, 0, 0))) (tr_n 25 (tr_l 25 (.istore_n 1, 1, 0, 0)) (tr_l 26 (.iload_n 1, 1, 0, 0)))))) (tr_n 39 (tr_n 31 (tr_n 27 (tr_l 27 (.aload_n 0, 1, 0, 0)) (tr_n 28 (tr_l 28 (.getfield 11, 3, 0, 3)) (tr_l 31 (.arraylength, 1, 0, 0)))) (tr_n 35 (tr_n 32 (tr_l 32 (.if_icmp .ge 22, 3, 54, 0)) (tr_l 35 (.aload_n 0, 1, 0, 0))) (tr_n 36 (tr_l 36 (.getfield 11, 3, 0, 3)) (tr_l 39 (.iload_n 1, 1, 0, 0))))) (tr_n 44 (tr_n 40 (tr_l 40 (.new 9, 3, 9, 0)) (tr_n 43 (tr_l 43 (.dup, 1, 0, 0)) (tr_l 44 (.invokespecial 24, 3, 5, 4)))) (tr_n 48 (tr_n 47 (tr_l 47 (.aastore, 1, 4, 8)) (tr_l 48 (.iinc 1 1, 3, 0, 0))) (tr_n 51 (tr_l 51 (.goto (-25), 3, 26, 0)) (tr_l 54 (.return_, 1, 0, 0)))))))
def c_Labels_init : Nat → Option eg_E := (tr_n 7 (tr_n 1 (tr_n 0 (tr_l 0 (.aload_n 0, 1, 0, 0)) (tr_l 1 (.invokespecial 3, 3, 0, 99))) (tr_n 4 (tr_l 4 (.aload_n 0, 1, 0, 0)) (tr_n 5 (tr_l 5 (.bipush 12, 2, 0, 0)) (tr_l 7 (.newarray .int, 2, 14, 0))))) (tr_n 13 (tr_n 9 (tr_l 9 (.putfield 9, 3, 0, 5)) (tr_n 12 (tr_l 12 (.aload_n 0, 1, 0, 0)) (tr_l 13 (.bipush 12, 2, 0, 0)))) (tr_n 15 (tr_l 15 (.newarray .int, 2, 15, 0)) (tr_n 17 (tr_l 17 (.putfield 15, 3, 1, 5)) (tr_l 20 (.return_, 1, 0, 0))))))
def c_Item_init : Nat → Option eg_E := (tr_n 15 (tr_n 5 (tr_n 1 (tr_n 0 (tr_l 0 (.aload_n 0, 1, 0, 0)) (tr_l 1 (.invokespecial 3, 3, 0, 99))) (tr_n 4 (tr_l 4 (.aload_n 0, 1, 0, 0)) (tr_l 5 (.getstatic 9, 3, 0, 0)))) (tr_n 11 (tr_n 8 (tr_l 8 (.putfield 15, 3, 0, 4)) (tr_l 11 (.aload_n 0, 1, 0, 0))) (tr_n 12 (tr_l 12 (.iconst 3, 1, 0, 0)) (tr_n 13 (tr_l 13 (.newarray .int, 2, 10, 0)) (tr_l 15 (.putfield 20, 3, 2, 4)))))) (tr_n 22 (tr_n 19 (tr_n 18 (tr_l 18 (.aload_n 0, 1, 0, 0)) (tr_l 19 (.iconst 4, 1, 0, 0))) (tr_n 20 (tr_l 20 (.newarray .int, 2, 11, 0)) (tr_l 22 (.putfield 24, 3, 5, 4)))) (tr_n 26 (tr_n 25 (tr_l 25 (.aload_n 0, 1, 0, 0)) (tr_l 26 (.iconst 4, 1, 0, 0))) (tr_n 27 (tr_l 27 (.newarray .int, 2, 12, 0)) (tr_n 29 (tr_l 29 (.putfield 27, 3, 6, 4)) (tr_l 32 (.return_, 1, 0, 0)))))))
def c_Code_init : Nat → Option eg_E := (tr_n 8 (tr_n 1 (tr_n 0 (tr_l 0 (.aload_n 0, 1, 0, 0)) (tr_l 1 (.invokespecial 3, 3, 0, 99))) (tr_n 4 (tr_l 4 (.aload_n 0, 1, 0, 0)) (tr_n 5 (tr_l 5 (.sipush 200, 3, 0, 0)) (tr_l 8 (.newarray .int, 2, 17, 0))))) (tr_n 14 (tr_n 10 (tr_l 10 (.putfield 9, 3, 0, 6)) (tr_n 13 (tr_l 13 (.aload_n 0, 1, 0, 0)) (tr_l 14 (.sipush 200, 3, 0, 0)))) (tr_n 17 (tr_l 17 (.newarray .int, 2, 18, 0)) (tr_n 19 (tr_l 19 (.putfield 15, 3, 2, 6)) (tr_l 22 (.return_, 1, 0, 0))))))
def c_Reading_init : Nat → Option eg_E := (tr_n 12 (tr_n 4 (tr_n 0 (tr_l 0 (.aload_n 0, 1, 0, 0)) (tr_n 1 (tr_l 1 (.invokespecial 3, 3, 0, 99)) (tr_l 4 (.aload_n 0, 1, 0, 0)))) (tr_n 8 (tr_n 5 (tr_l 5 (.getstatic 9, 3, 0, 0)) (tr_l 8 (.putfield 15, 3, 0, 7))) (tr_n 11 (tr_l 11 (.aload_n 0, 1, 0, 0)) (tr_l 12 (.iconst 3, 1, 0, 0))))) (tr_n 18 (tr_n 13 (tr_l 13 (.newarray .int, 2, 20, 0)) (tr_n 15 (tr_l 15 (.putfield 20, 3, 3, 7)) (tr_l 18 (.aload_n 0, 1, 0, 0)))) (tr_n 20 (tr_n 19 (tr_l 19 (.iconst 4, 1, 0, 0)) (tr_l 20 (.newarray .int, 2, 21, 0))) (tr_n 22 (tr_l 22 (.putfield 24, 3, 6, 7)) (tr_l 25 (.return_, 1, 0, 0))))))
def c_Machine_init : Nat → Option eg_E := (tr_n 12 (tr_n 4 (tr_n 0 (tr_l 0 (.aload_n 0, 1, 0, 0)) (tr_n 1 (tr_l 1 (.invokespecial 3, 3, 0, 99)) (tr_l 4 (.aload_n 0, 1, 0, 0)))) (tr_n 7 (tr_n 5 (tr_l 5 (.bipush 16, 2, 0, 0)) (tr_l 7 (.newarray .int, 2, 23, 0))) (tr_n 9 (tr_l 9 (.putfield 9, 3, 0, 8)) (tr_l 12 (.aload_n 0, 1, 0, 0))))) (tr_n 18 (tr_n 14 (tr_n 13 (tr_l 13 (.iconst 0, 1, 0, 0)) (tr_l 14 (.putfield 15, 3, 3, 8))) (tr_n 17 (tr_l 17 (.aload_n 0, 1, 0, 0)) (tr_l 18 (.new 19, 3, 19, 0)))) (tr_n 22 (tr_n 21 (tr_l 21 (.dup, 1, 0, 0)) (tr_l 22 (.invokespecial 21, 3, 7, 7))) (tr_n 25 (tr_l 25 (.putfield 22, 3, 5, 8)) (tr_l 28 (.return_, 1, 0, 0))))))
def c_U_put : Nat → Option eg_E := (tr_n 11 (tr_n 4 (tr_n 0 (tr_l 0 (.iload_n 1, 1, 0, 0)) (tr_n 1 (tr_l 1 (.ifCond .lt 10, 3, 11, 0)) (tr_l 4 (.iload_n 1, 1, 0, 0)))) (tr_n 5 (tr_l 5 (.sipush 255, 3, 0, 0)) (tr_n 8 (tr_l 8 (.if_icmp .le 5, 3, 13, 0)) (tr_l 11 (.iconst (-1), 1, 0, 0))))) (tr_n 14 (tr_n 12 (tr_l 12 (.ireturn, 1, 1, 0)) (tr_n 13 (tr_l 13 (.aload_n 0, 1, 0, 0)) (tr_l 14 (.getfield 12, 3, 0, 1)))) (tr_n 17 (tr_l 17 (.iload_n 1, 1, 0, 0)) (tr_n 18 (tr_l 18 (.invokevirtual 53, 3, 10, 2)) (tr_l 21 (.ireturn, 1, 1, 0))))))
def c_Draft_append : Nat → Option eg_E := (tr_n 17 (tr_n 9 (tr_n 1 (tr_n 0 (tr_l 0 (.aload_n 0, 1, 0, 0)) (tr_l 1 (.getfield 21, 3, 1, 2))) (tr_n 4 (tr_l 4 (.bipush 40, 2, 0, 0)) (tr_n 6 (tr_l 6 (.if_icmp .lt 6, 3, 12, 0)) (tr_l 9 (.bipush (-3), 2, 0, 0))))) (tr_n 12 (tr_n 11 (tr_l 11 (.ireturn, 1, 1, 0)) (tr_l 12 (.aload_n 0, 1, 0, 0))) (tr_n 13 (tr_l 13 (.getfield 9, 3, 0, 2)) (tr_n 16 (tr_l 16 (.aload_n 0, 1, 0, 0)) (tr_l 17 (.getfield 21, 3, 1, 2)))))) (tr_n 24 (tr_n 21 (tr_n 20 (tr_l 20 (.iload_n 1, 1, 0, 0)) (tr_l 21 (.iastore, 1, 0, 0))) (tr_n 22 (tr_l 22 (.aload_n 0, 1, 0, 0)) (tr_n 23 (tr_l 23 (.dup, 1, 0, 0)) (tr_l 24 (.getfield 21, 3, 1, 2))))) (tr_n 29 (tr_n 27 (tr_l 27 (.iconst 1, 1, 0, 0)) (tr_n 28 (tr_l 28 (.iadd, 1, 0, 0)) (tr_l 29 (.putfield 21, 3, 1, 2)))) (tr_n 32 (tr_l 32 (.aload_n 0, 1, 0, 0)) (tr_n 33 (tr_l 33 (.getfield 21, 3, 1, 2)) (tr_l 36 (.ireturn, 1, 1, 0)))))))
def c_U_line : Nat → Option eg_E := (tr_n 11 (tr_n 4 (tr_n 0 (tr_l 0 (.aload_n 0, 1, 0, 0)) (tr_n 1 (tr_l 1 (.getfield 12, 3, 0, 1)) (tr_l 4 (.invokevirtual 57, 3, 12, 2)))) (tr_n 7 (tr_l 7 (.aload_n 0, 1, 0, 0)) (tr_n 8 (tr_l 8 (.invokevirtual 60, 3, 13, 1)) (tr_l 11 (.istore_n 1, 1, 0, 0))))) (tr_n 16 (tr_n 12 (tr_l 12 (.aload_n 0, 1, 0, 0)) (tr_n 13 (tr_l 13 (.getfield 12, 3, 0, 1)) (tr_l 16 (.iconst 0, 1, 0, 0)))) (tr_n 17 (tr_l 17 (.putfield 64, 3, 1, 2)) (tr_n 20 (tr_l 20 (.iload_n 1, 1, 0, 0)) (tr_l 21 (.ireturn, 1, 1, 0))))))
def c_Draft_partIntoWords : Nat → Option eg_E := (tr_n 56 (tr_n 25 (tr_n 9 (tr_n 5 (tr_n 1 (tr_n 0 (tr_l 0 (.aload_n 0, 1, 0, 0)) (tr_l 1 (.iconst 0, 1, 0, 0))) (tr_n 2 (tr_l 2 (.putfield 25, 3, 4, 2)) (tr_l 5 (.iconst 0, 1, 0, 0)))) (tr_n 7 (tr_n 6 (tr_l 6 (.istore_n 1, 1, 0, 0)) (tr_l 7 (.iconst 0, 1, 0, 0))) (tr_n 8 (tr_l 8 (.istore_n 2, 1, 0, 0)) (tr_l 9 (.iload_n 2, 1, 0, 0))))) (tr_n 17 (tr_n 11 (tr_n 10 (tr_l 10 (.aload_n 0, 1, 0, 0)) (tr_l 11 (.getfield 21, 3, 1, 2))) (tr_n 14 (tr_l 14 (.if_icmp .ge 100, 3, 114, 0)) (tr_l 17 (.aload_n 0, 1, 0, 0)))) (tr_n 21 (tr_n 18 (tr_l 18 (.getfield 9, 3, 0, 2)) (tr_l 21 (.iload_n 2, 1, 0, 0))) (tr_n 22 (tr_l 22 (.iaload, 1, 0, 0)) (tr_n 23 (tr_l 23 (.bipush 59, 2, 0, 0)) (tr_l 25 (.if_icmp .eq 89, 3, 114, 0))))))) (tr_n 40 (tr_n 33 (tr_n 29 (tr_n 28 (tr_l 28 (.aload_n 0, 1, 0, 0)) (tr_l 29 (.getfield 9, 3, 0, 2))) (tr_n 32 (tr_l 32 (.iload_n 2, 1, 0, 0)) (tr_l 33 (.iaload, 1, 0, 0)))) (tr_n 36 (tr_n 34 (tr_l 34 (.bipush 32, 2, 0, 0)) (tr_l 36 (.if_icmp .eq 14, 3, 50, 0))) (tr_n 39 (tr_l 39 (.aload_n 0, 1, 0, 0)) (tr_l 40 (.getfield 9, 3, 0, 2))))) (tr_n 47 (tr_n 44 (tr_n 43 (tr_l 43 (.iload_n 2, 1, 0, 0)) (tr_l 44 (.iaload, 1, 0, 0))) (tr_n 45 (tr_l 45 (.bipush 44, 2, 0, 0)) (tr_l 47 (.if_icmp .ne 7, 3, 54, 0)))) (tr_n 51 (tr_n 50 (tr_l 50 (.iconst 1, 1, 0, 0)) (tr_l 51 (.goto 4, 3, 55, 0))) (tr_n 54 (tr_l 54 (.iconst 0, 1, 0, 0)) (tr_n 55 (tr_l 55 (.istore_n 3, 1, 0, 0)) (tr_l 56 (.iload_n 3, 1, 0, 0)))))))) (tr_n 85 (tr_n 72 (tr_n 64 (tr_n 60 (tr_n 57 (tr_l 57 (.ifCond .ne 41, 3, 98, 0)) (tr_l 60 (.iload_n 1, 1, 0, 0))) (tr_n 61 (tr_l 61 (.ifCond .ne 23, 3, 84, 0)) (tr_l 64 (.aload_n 0, 1, 0, 0)))) (tr_n 68 (tr_n 65 (tr_l 65 (.getfield 15, 3, 2, 2)) (tr_l 68 (.aload_n 0, 1, 0, 0))) (tr_n 69 (tr_l 69 (.getfield 25, 3, 4, 2)) (tr_l 72 (.iload_n 2, 1, 0, 0))))) (tr_n 76 (tr_n 74 (tr_n 73 (tr_l 73 (.iastore, 1, 0, 0)) (tr_l 74 (.aload_n 0, 1, 0, 0))) (tr_n 75 (tr_l 75 (.dup, 1, 0, 0)) (tr_l 76 (.getfield 25, 3, 4, 2)))) (tr_n 80 (tr_n 79 (tr_l 79 (.iconst 1, 1, 0, 0)) (tr_l 80 (.iadd, 1, 0, 0))) (tr_n 81 (tr_l 81 (.putfield 25, 3, 4, 2)) (tr_n 84 (tr_l 84 (.aload_n 0, 1, 0, 0)) (tr_l 85 (.getfield 18, 3, 3, 2))))))) (tr_n 97 (tr_n 93 (tr_n 89 (tr_n 88 (tr_l 88 (.aload_n 0, 1, 0, 0)) (tr_l 89 (.getfield 25, 3, 4, 2))) (tr_n 92 (tr_l 92 (.iconst 1, 1, 0, 0)) (tr_l 93 (.isub, 1, 0, 0)))) (tr_n 95 (tr_n 94 (tr_l 94 (.iload_n 2, 1, 0, 0)) (tr_l 95 (.iconst 1, 1, 0, 0))) (tr_n 96 (tr_l 96 (.iadd, 1, 0, 0)) (tr_l 97 (.iastore, 1, 0, 0))))) (tr_n 103 (tr_n 99 (tr_n 98 (tr_l 98 (.iload_n 3, 1, 0, 0)) (tr_l 99 (.ifCond .ne 7, 3, 106, 0))) (tr_n 102 (tr_l 102 (.iconst 1, 1, 0, 0)) (tr_l 103 (.goto 4, 3, 107, 0)))) (tr_n 107 (tr_n 106 (tr_l 106 (.iconst 0, 1, 0, 0)) (tr_l 107 (.istore_n 1, 1, 0, 0))) (tr_n 108 (tr_l 108 (.iinc 2 1, 3, 0, 0)) (tr_n 111 (tr_l 111 (.goto (-102), 3, 9, 0)) (tr_l 114 (.return_, 1, 0, 0)))))))))
def c_U_takeLine : Nat → Option eg_E := (tr_n 50 (tr_n 22 (tr_n 12 (tr_n 4 (tr_n 0 (tr_l 0 (.aload_n 0, 1, 0, 0)) (tr_n 1 (tr_l 1 (.getfield 12, 3, 0, 1)) (tr_l 4 (.getfield 184, 3, 4, 2)))) (tr_n 7 (tr_l 7 (.ifCond .ne 6, 3, 13, 0)) (tr_n 10 (tr_l 10 (.bipush (-4), 2, 0, 0)) (tr_l 12 (.ireturn, 1, 1, 0))))) (tr_n 17 (tr_n 13 (tr_l 13 (.aload_n 0, 1, 0, 0)) (tr_n 14 (tr_l 14 (.getfield 12, 3, 0, 1)) (tr_l 17 (.iconst 0, 1, 0, 0)))) (tr_n 18 (tr_l 18 (.invokevirtual 187, 3, 14, 2)) (tr_n 21 (tr_l 21 (.istore_n 1, 1, 0, 0)) (tr_l 22 (.iload_n 1, 1, 0, 0)))))) (tr_n 34 (tr_n 27 (tr_n 23 (tr_l 23 (.ifCond .eq 28, 3, 51, 0)) (tr_n 26 (tr_l 26 (.aload_n 0, 1, 0, 0)) (tr_l 27 (.getfield 12, 3, 0, 1)))) (tr_n 30 (tr_l 30 (.getfield 184, 3, 4, 2)) (tr_n 33 (tr_l 33 (.iconst 1, 1, 0, 0)) (tr_l 34 (.if_icmp .ne 14, 3, 48, 0))))) (tr_n 41 (tr_n 37 (tr_l 37 (.aload_n 0, 1, 0, 0)) (tr_n 38 (tr_l 38 (.getfield 21, 3, 1, 1)) (tr_l 41 (.iload_n 1, 1, 0, 0)))) (tr_n 45 (tr_n 42 (tr_l 42 (.invokevirtual 190, 3, 15, 3)) (tr_l 45 (.goto 5, 3, 50, 0))) (tr_n 48 (tr_l 48 (.bipush (-4), 2, 0, 0)) (tr_l 50 (.ireturn, 1, 1, 0))))))) (tr_n 73 (tr_n 60 (tr_n 55 (tr_n 51 (tr_l 51 (.aload_n 0, 1, 0, 0)) (tr_n 52 (tr_l 52 (.getfield 12, 3, 0, 1)) (tr_l 55 (.invokevirtual 193, 3, 26, 2)))) (tr_n 58 (tr_l 58 (.astore_n 2, 1, 0, 0)) (tr_n 59 (tr_l 59 (.aload_n 2, 1, 0, 0)) (tr_l 60 (.ifnonnull 6, 3, 66, 0))))) (tr_n 66 (tr_n 63 (tr_l 63 (.bipush (-4), 2, 0, 0)) (tr_n 65 (tr_l 65 (.ireturn, 1, 1, 0)) (tr_l 66 (.aload_n 0, 1, 0, 0)))) (tr_n 67 (tr_l 67 (.getfield 21, 3, 1, 1)) (tr_n 70 (tr_l 70 (.invokevirtual 197, 3, 28, 3)) (tr_l 73 (.astore_n 3, 1, 0, 0)))))) (tr_n 81 (tr_n 76 (tr_n 74 (tr_l 74 (.aload_n 3, 1, 0, 0)) (tr_n 75 (tr_l 75 (.aload_n 2, 1, 0, 0)) (tr_l 76 (.invokevirtual 201, 3, 29, 4)))) (tr_n 79 (tr_l 79 (.aload_n 0, 1, 0, 0)) (tr_n 80 (tr_l 80 (.aload_n 3, 1, 0, 0)) (tr_l 81 (.invokevirtual 205, 3, 30, 1))))) (tr_n 88 (tr_n 84 (tr_l 84 (.ifCond .eq 13, 3, 97, 0)) (tr_n 87 (tr_l 87 (.aload_n 0, 1, 0, 0)) (tr_l 88 (.getfield 21, 3, 1, 1)))) (tr_n 94 (tr_n 91 (tr_l 91 (.invokevirtual 209, 3, 42, 3)) (tr_l 94 (.goto 5, 3, 99, 0))) (tr_n 97 (tr_l 97 (.bipush (-5), 2, 0, 0)) (tr_l 99 (.ireturn, 1, 1, 0))))))))
def c_Draft_labelName : Nat → Option eg_E := (tr_n 53 (tr_n 23 (tr_n 10 (tr_n 5 (tr_n 1 (tr_n 0 (tr_l 0 (.aload_n 0, 1, 0, 0)) (tr_l 1 (.getfield 15, 3, 2, 2))) (tr_n 4 (tr_l 4 (.iload_n 1, 1, 0, 0)) (tr_l 5 (.iaload, 1, 0, 0)))) (tr_n 7 (tr_n 6 (tr_l 6 (.iconst 1, 1, 0, 0)) (tr_l 7 (.iadd, 1, 0, 0))) (tr_n 8 (tr_l 8 (.istore_n 2, 1, 0, 0)) (tr_n 9 (tr_l 9 (.aload_n 0, 1, 0, 0)) (tr_l 10 (.getfield 18, 3, 3, 2)))))) (tr_n 16 (tr_n 14 (tr_n 13 (tr_l 13 (.iload_n 1, 1, 0, 0)) (tr_l 14 (.iaload, 1, 0, 0))) (tr_n 15 (tr_l 15 (.iload_n 2, 1, 0, 0)) (tr_l 16 (.isub, 1, 0, 0)))) (tr_n 18 (tr_n 17 (tr_l 17 (.istore_n 3, 1, 0, 0)) (tr_l 18 (.aload_n 0, 1, 0, 0))) (tr_n 19 (tr_l 19 (.getfield 9, 3, 0, 2)) (tr_n 22 (tr_l 22 (.aload_n 0, 1, 0, 0)) (tr_l 23 (.getfield 15, 3, 2, 2))))))) (tr_n 39 (tr_n 29 (tr_n 27 (tr_n 26 (tr_l 26 (.iload_n 1, 1, 0, 0)) (tr_l 27 (.iaload, 1, 0, 0))) (tr_n 28 (tr_l 28 (.iaload, 1, 0, 0)) (tr_l 29 (.bipush 58, 2, 0, 0)))) (tr_n 34 (tr_n 31 (tr_l 31 (.if_icmp .ne 14, 3, 45, 0)) (tr_l 34 (.iload_n 3, 1, 0, 0))) (tr_n 35 (tr_l 35 (.iconst 1, 1, 0, 0)) (tr_n 36 (tr_l 36 (.if_icmp .lt 9, 3, 45, 0)) (tr_l 39 (.iload_n 3, 1, 0, 0)))))) (tr_n 46 (tr_n 42 (tr_n 40 (tr_l 40 (.bipush 6, 2, 0, 0)) (tr_l 42 (.if_icmp .le 5, 3, 47, 0))) (tr_n 45 (tr_l 45 (.iconst 0, 1, 0, 0)) (tr_l 46 (.ireturn, 1, 1, 0)))) (tr_n 48 (tr_n 47 (tr_l 47 (.iconst 0, 1, 0, 0)) (tr_l 48 (.istore 4, 2, 0, 0))) (tr_n 50 (tr_l 50 (.iload_n 2, 1, 0, 0)) (tr_n 51 (tr_l 51 (.istore 5, 2, 0, 0)) (tr_l 53 (.iload 5, 2, 0, 0)))))))) (tr_n 88 (tr_n 70 (tr_n 60 (tr_n 56 (tr_n 55 (tr_l 55 (.aload_n 0, 1, 0, 0)) (tr_l 56 (.getfield 18, 3, 3, 2))) (tr_n 59 (tr_l 59 (.iload_n 1, 1, 0, 0)) (tr_l 60 (.iaload, 1, 0, 0)))) (tr_n 64 (tr_n 61 (tr_l 61 (.if_icmp .ge 55, 3, 116, 0)) (tr_l 64 (.aload_n 0, 1, 0, 0))) (tr_n 65 (tr_l 65 (.getfield 9, 3, 0, 2)) (tr_n 68 (tr_l 68 (.iload 5, 2, 0, 0)) (tr_l 70 (.iaload, 1, 0, 0)))))) (tr_n 77 (tr_n 73 (tr_n 71 (tr_l 71 (.bipush 97, 2, 0, 0)) (tr_l 73 (.if_icmp .lt 15, 3, 88, 0))) (tr_n 76 (tr_l 76 (.aload_n 0, 1, 0, 0)) (tr_l 77 (.getfield 9, 3, 0, 2)))) (tr_n 82 (tr_n 80 (tr_l 80 (.iload 5, 2, 0, 0)) (tr_l 82 (.iaload, 1, 0, 0))) (tr_n 83 (tr_l 83 (.bipush 122, 2, 0, 0)) (tr_n 85 (tr_l 85 (.if_icmp .le 5, 3, 90, 0)) (tr_l 88 (.iconst 0, 1, 0, 0))))))) (tr_n 102 (tr_n 94 (tr_n 90 (tr_n 89 (tr_l 89 (.ireturn, 1, 1, 0)) (tr_l 90 (.bipush 27, 2, 0, 0))) (tr_n 92 (tr_l 92 (.iload 4, 2, 0, 0)) (tr_l 94 (.imul, 1, 0, 0)))) (tr_n 96 (tr_n 95 (tr_l 95 (.aload_n 0, 1, 0, 0)) (tr_l 96 (.getfield 9, 3, 0, 2))) (tr_n 99 (tr_l 99 (.iload 5, 2, 0, 0)) (tr_n 101 (tr_l 101 (.iaload, 1, 0, 0)) (tr_l 102 (.iadd, 1, 0, 0)))))) (tr_n 107 (tr_n 105 (tr_n 103 (tr_l 103 (.bipush 97, 2, 0, 0)) (tr_l 105 (.isub, 1, 0, 0))) (tr_n 106 (tr_l 106 (.iconst 1, 1, 0, 0)) (tr_l 107 (.iadd, 1, 0, 0)))) (tr_n 110 (tr_n 108 (tr_l 108 (.istore 4, 2, 0, 0)) (tr_l 110 (.iinc 5 1, 3, 0, 0))) (tr_n 113 (tr_l 113 (.goto (-60), 3, 53, 0)) (tr_n 116 (tr_l 116 (.iload 4, 2, 0, 0)) (tr_l 118 (.ireturn, 1, 1, 0)))))))))
def c_Text_standLabel : Nat → Option eg_E := (tr_n 28 (tr_n 12 (tr_n 5 (tr_n 1 (tr_n 0 (tr_l 0 (.aload_n 0, 1, 0, 0)) (tr_l 1 (.getfield 20, 3, 2, 3))) (tr_n 4 (tr_l 4 (.iload_n 1, 1, 0, 0)) (tr_l 5 (.invokevirtual 37, 3, 16, 5)))) (tr_n 9 (tr_n 8 (tr_l 8 (.istore_n 2, 1, 0, 0)) (tr_l 9 (.iload_n 2, 1, 0, 0))) (tr_n 10 (tr_l 10 (.bipush (-3), 2, 0, 0)) (tr_l 12 (.if_icmp .ne 6, 3, 18, 0))))) (tr_n 19 (tr_n 17 (tr_n 15 (tr_l 15 (.bipush (-3), 2, 0, 0)) (tr_l 17 (.ireturn, 1, 1, 0))) (tr_n 18 (tr_l 18 (.aload_n 0, 1, 0, 0)) (tr_l 19 (.getfield 20, 3, 2, 3)))) (tr_n 25 (tr_n 22 (tr_l 22 (.getfield 41, 3, 1, 5)) (tr_l 25 (.iload_n 2, 1, 0, 0))) (tr_n 26 (tr_l 26 (.iaload, 1, 0, 0)) (tr_n 27 (tr_l 27 (.iconst (-1), 1, 0, 0)) (tr_l 28 (.if_icmp .eq 6, 3, 34, 0))))))) (tr_n 43 (tr_n 35 (tr_n 33 (tr_n 31 (tr_l 31 (.bipush (-6), 2, 0, 0)) (tr_l 33 (.ireturn, 1, 1, 0))) (tr_n 34 (tr_l 34 (.aload_n 0, 1, 0, 0)) (tr_l 35 (.getfield 20, 3, 2, 3)))) (tr_n 41 (tr_n 38 (tr_l 38 (.getfield 41, 3, 1, 5)) (tr_l 41 (.iload_n 2, 1, 0, 0))) (tr_n 42 (tr_l 42 (.aload_n 0, 1, 0, 0)) (tr_l 43 (.getfield 25, 3, 1, 3))))) (tr_n 51 (tr_n 47 (tr_n 46 (tr_l 46 (.iastore, 1, 0, 0)) (tr_l 47 (.aload_n 0, 1, 0, 0))) (tr_n 48 (tr_l 48 (.invokevirtual 30, 3, 18, 3)) (tr_l 51 (.bipush 100, 2, 0, 0)))) (tr_n 54 (tr_n 53 (tr_l 53 (.aload_n 0, 1, 0, 0)) (tr_l 54 (.getfield 20, 3, 2, 3))) (tr_n 57 (tr_l 57 (.getfield 29, 3, 2, 5)) (tr_n 60 (tr_l 60 (.iadd, 1, 0, 0)) (tr_l 61 (.ireturn, 1, 1, 0))))))))
def c_Labels_findOrAdd : Nat → Option eg_E := (tr_n 31 (tr_n 13 (tr_n 5 (tr_n 1 (tr_n 0 (tr_l 0 (.aload_n 0, 1, 0, 0)) (tr_l 1 (.iload_n 1, 1, 0, 0))) (tr_n 2 (tr_l 2 (.invokevirtual 22, 3, 17, 5)) (tr_l 5 (.istore_n 2, 1, 0, 0)))) (tr_n 7 (tr_n 6 (tr_l 6 (.iload_n 2, 1, 0, 0)) (tr_l 7 (.bipush (-2), 2, 0, 0))) (tr_n 9 (tr_l 9 (.if_icmp .eq 5, 3, 14, 0)) (tr_n 12 (tr_l 12 (.iload_n 2, 1, 0, 0)) (tr_l 13 (.ireturn, 1, 1, 0)))))) (tr_n 23 (tr_n 15 (tr_n 14 (tr_l 14 (.aload_n 0, 1, 0, 0)) (tr_l 15 (.getfield 18, 3, 2, 5))) (tr_n 18 (tr_l 18 (.bipush 12, 2, 0, 0)) (tr_n 20 (tr_l 20 (.if_icmp .lt 6, 3, 26, 0)) (tr_l 23 (.bipush (-3), 2, 0, 0))))) (tr_n 26 (tr_n 25 (tr_l 25 (.ireturn, 1, 1, 0)) (tr_l 26 (.aload_n 0, 1, 0, 0))) (tr_n 27 (tr_l 27 (.getfield 9, 3, 0, 5)) (tr_n 30 (tr_l 30 (.aload_n 0, 1, 0, 0)) (tr_l 31 (.getfield 18, 3, 2, 5))))))) (tr_n 46 (tr_n 37 (tr_n 35 (tr_n 34 (tr_l 34 (.iload_n 1, 1, 0, 0)) (tr_l 35 (.iastore, 1, 0, 0))) (tr_n 36 (tr_l 36 (.aload_n 0, 1, 0, 0)) (tr_l 37 (.getfield 15, 3, 1, 5)))) (tr_n 41 (tr_n 40 (tr_l 40 (.aload_n 0, 1, 0, 0)) (tr_l 41 (.getfield 18, 3, 2, 5))) (tr_n 44 (tr_l 44 (.iconst (-1), 1, 0, 0)) (tr_n 45 (tr_l 45 (.iastore, 1, 0, 0)) (tr_l 46 (.aload_n 0, 1, 0, 0)))))) (tr_n 53 (tr_n 48 (tr_n 47 (tr_l 47 (.dup, 1, 0, 0)) (tr_l 48 (.getfield 18, 3, 2, 5))) (tr_n 51 (tr_l 51 (.iconst 1, 1, 0, 0)) (tr_n 52 (tr_l 52 (.iadd, 1, 0, 0)) (tr_l 53 (.putfield 18, 3, 2, 5))))) (tr_n 57 (tr_n 56 (tr_l 56 (.aload_n 0, 1, 0, 0)) (tr_l 57 (.getfield 18, 3, 2, 5))) (tr_n 60 (tr_l 60 (.iconst 1, 1, 0, 0)) (tr_n 61 (tr_l 61 (.isub, 1, 0, 0)) (tr_l 62 (.ireturn, 1, 1, 0))))))))
def c_Labels_find : Nat → Option eg_E := (tr_n 14 (tr_n 3 (tr_n 1 (tr_n 0 (tr_l 0 (.iconst 0, 1, 0, 0)) (tr_l 1 (.istore_n 2, 1, 0, 0))) (tr_n 2 (tr_l 2 (.iload_n 2, 1, 0, 0)) (tr_l 3 (.aload_n 0, 1, 0, 0)))) (tr_n 7 (tr_n 4 (tr_l 4 (.getfield 18, 3, 2, 5)) (tr_l 7 (.if_icmp .ge 21, 3, 28, 0))) (tr_n 10 (tr_l 10 (.aload_n 0, 1, 0, 0)) (tr_n 11 (tr_l 11 (.getfield 9, 3, 0, 5)) (tr_l 14 (.iload_n 2, 1, 0, 0)))))) (tr_n 20 (tr_n 16 (tr_n 15 (tr_l 15 (.iaload, 1, 0, 0)) (tr_l 16 (.iload_n 1, 1, 0, 0))) (tr_n 17 (tr_l 17 (.if_icmp .ne 5, 3, 22, 0)) (tr_l 20 (.iload_n 2, 1, 0, 0)))) (tr_n 22 (tr_n 21 (tr_l 21 (.ireturn, 1, 1, 0)) (tr_l 22 (.iinc 2 1, 3, 0, 0))) (tr_n 25 (tr_l 25 (.goto (-23), 3, 2, 0)) (tr_n 28 (tr_l 28 (.bipush (-2), 2, 0, 0)) (tr_l 30 (.ireturn, 1, 1, 0)))))))
def c_Text_layOut : Nat → Option eg_E := (tr_n 15 (tr_n 6 (tr_n 1 (tr_n 0 (tr_l 0 (.aload_n 0, 1, 0, 0)) (tr_l 1 (.invokevirtual 67, 3, 19, 3))) (tr_n 4 (tr_l 4 (.iconst 0, 1, 0, 0)) (tr_n 5 (tr_l 5 (.istore_n 1, 1, 0, 0)) (tr_l 6 (.iconst 0, 1, 0, 0))))) (tr_n 9 (tr_n 7 (tr_l 7 (.istore_n 2, 1, 0, 0)) (tr_n 8 (tr_l 8 (.iload_n 2, 1, 0, 0)) (tr_l 9 (.bipush 40, 2, 0, 0)))) (tr_n 11 (tr_l 11 (.if_icmp .gt 30, 3, 41, 0)) (tr_n 14 (tr_l 14 (.iload_n 1, 1, 0, 0)) (tr_l 15 (.ifCond .ne 26, 3, 41, 0)))))) (tr_n 29 (tr_n 22 (tr_n 18 (tr_l 18 (.aload_n 0, 1, 0, 0)) (tr_n 19 (tr_l 19 (.invokevirtual 70, 3, 20, 3)) (tr_l 22 (.aload_n 0, 1, 0, 0)))) (tr_n 23 (tr_l 23 (.invokevirtual 73, 3, 23, 3)) (tr_n 26 (tr_l 26 (.ifCond .ne 7, 3, 33, 0)) (tr_l 29 (.iconst 1, 1, 0, 0))))) (tr_n 34 (tr_n 30 (tr_l 30 (.goto 4, 3, 34, 0)) (tr_n 33 (tr_l 33 (.iconst 0, 1, 0, 0)) (tr_l 34 (.istore_n 1, 1, 0, 0)))) (tr_n 35 (tr_l 35 (.iinc 2 1, 3, 0, 0)) (tr_n 38 (tr_l 38 (.goto (-30), 3, 8, 0)) (tr_l 41 (.return_, 1, 0, 0)))))))
def c_Text_shortenJumps : Nat → Option eg_E := (tr_n 19 (tr_n 7 (tr_n 2 (tr_n 0 (tr_l 0 (.aload_n 0, 1, 0, 0)) (tr_n 1 (tr_l 1 (.iconst 0, 1, 0, 0)) (tr_l 2 (.putfield 76, 3, 4, 3)))) (tr_n 5 (tr_l 5 (.iconst 0, 1, 0, 0)) (tr_n 6 (tr_l 6 (.istore_n 1, 1, 0, 0)) (tr_l 7 (.iload_n 1, 1, 0, 0))))) (tr_n 12 (tr_n 8 (tr_l 8 (.aload_n 0, 1, 0, 0)) (tr_n 9 (tr_l 9 (.getfield 25, 3, 1, 3)) (tr_l 12 (.if_icmp .ge 34, 3, 46, 0)))) (tr_n 15 (tr_l 15 (.aload_n 0, 1, 0, 0)) (tr_n 16 (tr_l 16 (.getfield 11, 3, 0, 3)) (tr_l 19 (.iload_n 1, 1, 0, 0)))))) (tr_n 31 (tr_n 24 (tr_n 20 (tr_l 20 (.aaload, 1, 0, 0)) (tr_n 21 (tr_l 21 (.getfield 49, 3, 0, 4)) (tr_l 24 (.getstatic 79, 3, 9, 0)))) (tr_n 27 (tr_l 27 (.if_acmp .ne 13, 3, 40, 0)) (tr_n 30 (tr_l 30 (.aload_n 0, 1, 0, 0)) (tr_l 31 (.getfield 11, 3, 0, 3))))) (tr_n 36 (tr_n 34 (tr_l 34 (.iload_n 1, 1, 0, 0)) (tr_n 35 (tr_l 35 (.aaload, 1, 0, 0)) (tr_l 36 (.iconst 0, 1, 0, 0)))) (tr_n 40 (tr_n 37 (tr_l 37 (.putfield 82, 3, 1, 4)) (tr_l 40 (.iinc 1 1, 3, 0, 0))) (tr_n 43 (tr_l 43 (.goto (-36), 3, 7, 0)) (tr_l 46 (.return_, 1, 0, 0)))))))
def c_Text_placeItems : Nat → Option eg_E := (tr_n 31 (tr_n 13 (tr_n 4 (tr_n 1 (tr_n 0 (tr_l 0 (.iconst 0, 1, 0, 0)) (tr_l 1 (.istore_n 1, 1, 0, 0))) (tr_n 2 (tr_l 2 (.iconst 0, 1, 0, 0)) (tr_n 3 (tr_l 3 (.istore_n 2, 1, 0, 0)) (tr_l 4 (.iload_n 2, 1, 0, 0))))) (tr_n 6 (tr_n 5 (tr_l 5 (.aload_n 0, 1, 0, 0)) (tr_l 6 (.getfield 25, 3, 1, 3))) (tr_n 9 (tr_l 9 (.if_icmp .ge 56, 3, 65, 0)) (tr_n 12 (tr_l 12 (.aload_n 0, 1, 0, 0)) (tr_l 13 (.getfield 11, 3, 0, 3)))))) (tr_n 24 (tr_n 17 (tr_n 16 (tr_l 16 (.iload_n 2, 1, 0, 0)) (tr_l 17 (.aaload, 1, 0, 0))) (tr_n 18 (tr_l 18 (.getfield 49, 3, 0, 4)) (tr_n 21 (tr_l 21 (.getstatic 64, 3, 15, 0)) (tr_l 24 (.if_acmp .ne 13, 3, 37, 0))))) (tr_n 28 (tr_n 27 (tr_l 27 (.iload_n 1, 1, 0, 0)) (tr_l 28 (.iconst 2, 1, 0, 0))) (tr_n 29 (tr_l 29 (.irem, 1, 0, 0)) (tr_n 30 (tr_l 30 (.iconst 1, 1, 0, 0)) (tr_l 31 (.if_icmp .ne 6, 3, 37, 0))))))) (tr_n 49 (tr_n 42 (tr_n 37 (tr_n 34 (tr_l 34 (.iinc 1 1, 3, 0, 0)) (tr_l 37 (.aload_n 0, 1, 0, 0))) (tr_n 38 (tr_l 38 (.getfield 11, 3, 0, 3)) (tr_n 41 (tr_l 41 (.iload_n 2, 1, 0, 0)) (tr_l 42 (.aaload, 1, 0, 0))))) (tr_n 44 (tr_n 43 (tr_l 43 (.iload_n 1, 1, 0, 0)) (tr_l 44 (.putfield 86, 3, 7, 4))) (tr_n 47 (tr_l 47 (.iload_n 1, 1, 0, 0)) (tr_n 48 (tr_l 48 (.aload_n 0, 1, 0, 0)) (tr_l 49 (.getfield 11, 3, 0, 3)))))) (tr_n 58 (tr_n 53 (tr_n 52 (tr_l 52 (.iload_n 2, 1, 0, 0)) (tr_l 53 (.aaload, 1, 0, 0))) (tr_n 54 (tr_l 54 (.invokevirtual 89, 3, 21, 4)) (tr_n 57 (tr_l 57 (.iadd, 1, 0, 0)) (tr_l 58 (.istore_n 1, 1, 0, 0))))) (tr_n 65 (tr_n 59 (tr_l 59 (.iinc 2 1, 3, 0, 0)) (tr_n 62 (tr_l 62 (.goto (-58), 3, 4, 0)) (tr_l 65 (.aload_n 0, 1, 0, 0)))) (tr_n 66 (tr_l 66 (.iload_n 1, 1, 0, 0)) (tr_n 67 (tr_l 67 (.putfield 93, 3, 3, 3)) (tr_l 70 (.return_, 1, 0, 0))))))))
def c_Item_unitCount : Nat → Option eg_E := (tr_n 14 (tr_n 4 (tr_n 0 (tr_l 0 (.aload_n 0, 1, 0, 0)) (tr_n 1 (tr_l 1 (.getfield 15, 3, 0, 4)) (tr_l 4 (.getstatic 57, 3, 15, 0)))) (tr_n 10 (tr_n 7 (tr_l 7 (.if_acmp .ne 18, 3, 25, 0)) (tr_l 10 (.aload_n 0, 1, 0, 0))) (tr_n 11 (tr_l 11 (.getfield 15, 3, 0, 4)) (tr_l 14 (.getfield 60, 3, 2, 11))))) (tr_n 22 (tr_n 18 (tr_n 17 (tr_l 17 (.aload_n 0, 1, 0, 0)) (tr_l 18 (.getfield 38, 3, 4, 4))) (tr_n 21 (tr_l 21 (.iadd, 1, 0, 0)) (tr_l 22 (.goto 10, 3, 32, 0)))) (tr_n 26 (tr_n 25 (tr_l 25 (.aload_n 0, 1, 0, 0)) (tr_l 26 (.invokevirtual 63, 3, 22, 4))) (tr_n 29 (tr_l 29 (.getfield 60, 3, 2, 11)) (tr_l 32 (.ireturn, 1, 1, 0))))))
def c_Item_form : Nat → Option eg_E := (tr_n 12 (tr_n 4 (tr_n 0 (tr_l 0 (.aload_n 0, 1, 0, 0)) (tr_n 1 (tr_l 1 (.getfield 30, 3, 1, 4)) (tr_l 4 (.ifCond .ne 8, 3, 12, 0)))) (tr_n 8 (tr_n 7 (tr_l 7 (.aload_n 0, 1, 0, 0)) (tr_l 8 (.getfield 15, 3, 0, 4))) (tr_n 11 (tr_l 11 (.areturn, 1, 0, 0)) (tr_l 12 (.aload_n 0, 1, 0, 0))))) (tr_n 19 (tr_n 13 (tr_l 13 (.getfield 15, 3, 0, 4)) (tr_n 16 (tr_l 16 (.getstatic 48, 3, 9, 0)) (tr_l 19 (.if_acmp .ne 9, 3, 28, 0)))) (tr_n 25 (tr_n 22 (tr_l 22 (.getstatic 51, 3, 10, 0)) (tr_l 25 (.goto 6, 3, 31, 0))) (tr_n 28 (tr_l 28 (.getstatic 54, 3, 4, 0)) (tr_l 31 (.areturn, 1, 0, 0))))))
def c_Text_lengthenJumps : Nat → Option eg_E := (tr_n 39 (tr_n 16 (tr_n 6 (tr_n 1 (tr_n 0 (tr_l 0 (.aload_n 0, 1, 0, 0)) (tr_l 1 (.getfield 76, 3, 4, 3))) (tr_n 4 (tr_l 4 (.istore_n 1, 1, 0, 0)) (tr_n 5 (tr_l 5 (.iconst 0, 1, 0, 0)) (tr_l 6 (.istore_n 2, 1, 0, 0))))) (tr_n 9 (tr_n 7 (tr_l 7 (.iload_n 2, 1, 0, 0)) (tr_n 8 (tr_l 8 (.aload_n 0, 1, 0, 0)) (tr_l 9 (.getfield 25, 3, 1, 3)))) (tr_n 12 (tr_l 12 (.if_icmp .ge 56, 3, 68, 0)) (tr_n 15 (tr_l 15 (.aload_n 0, 1, 0, 0)) (tr_l 16 (.getfield 11, 3, 0, 3)))))) (tr_n 23 (tr_n 20 (tr_n 19 (tr_l 19 (.iload_n 2, 1, 0, 0)) (tr_l 20 (.aaload, 1, 0, 0))) (tr_n 21 (tr_l 21 (.astore_n 3, 1, 0, 0)) (tr_n 22 (tr_l 22 (.aload_n 3, 1, 0, 0)) (tr_l 23 (.getfield 49, 3, 0, 4))))) (tr_n 32 (tr_n 26 (tr_l 26 (.getstatic 79, 3, 9, 0)) (tr_n 29 (tr_l 29 (.if_acmp .ne 33, 3, 62, 0)) (tr_l 32 (.aload_n 3, 1, 0, 0)))) (tr_n 33 (tr_l 33 (.getfield 82, 3, 1, 4)) (tr_n 36 (tr_l 36 (.ifCond .ne 26, 3, 62, 0)) (tr_l 39 (.aload_n 0, 1, 0, 0))))))) (tr_n 58 (tr_n 48 (tr_n 41 (tr_n 40 (tr_l 40 (.aload_n 3, 1, 0, 0)) (tr_l 41 (.invokevirtual 95, 3, 24, 3))) (tr_n 44 (tr_l 44 (.ifCond .ne 18, 3, 62, 0)) (tr_n 47 (tr_l 47 (.aload_n 3, 1, 0, 0)) (tr_l 48 (.iconst 1, 1, 0, 0))))) (tr_n 53 (tr_n 49 (tr_l 49 (.putfield 82, 3, 1, 4)) (tr_n 52 (tr_l 52 (.aload_n 0, 1, 0, 0)) (tr_l 53 (.dup, 1, 0, 0)))) (tr_n 54 (tr_l 54 (.getfield 76, 3, 4, 3)) (tr_n 57 (tr_l 57 (.iconst 1, 1, 0, 0)) (tr_l 58 (.iadd, 1, 0, 0)))))) (tr_n 69 (tr_n 62 (tr_n 59 (tr_l 59 (.putfield 76, 3, 4, 3)) (tr_l 62 (.iinc 2 1, 3, 0, 0))) (tr_n 65 (tr_l 65 (.goto (-58), 3, 7, 0)) (tr_n 68 (tr_l 68 (.aload_n 0, 1, 0, 0)) (tr_l 69 (.getfield 76, 3, 4, 3))))) (tr_n 76 (tr_n 72 (tr_l 72 (.iload_n 1, 1, 0, 0)) (tr_n 73 (tr_l 73 (.if_icmp .le 7, 3, 80, 0)) (tr_l 76 (.iconst 1, 1, 0, 0)))) (tr_n 77 (tr_l 77 (.goto 4, 3, 81, 0)) (tr_n 80 (tr_l 80 (.iconst 0, 1, 0, 0)) (tr_l 81 (.ireturn, 1, 2, 0))))))))
def c_Text_reachesShort : Nat → Option eg_E := (tr_n 16 (tr_n 6 (tr_n 1 (tr_n 0 (tr_l 0 (.aload_n 0, 1, 0, 0)) (tr_l 1 (.aload_n 1, 1, 0, 0))) (tr_n 2 (tr_l 2 (.getfield 58, 3, 6, 4)) (tr_n 5 (tr_l 5 (.iconst 0, 1, 0, 0)) (tr_l 6 (.iaload, 1, 0, 0))))) (tr_n 11 (tr_n 7 (tr_l 7 (.invokevirtual 98, 3, 25, 3)) (tr_n 10 (tr_l 10 (.aload_n 1, 1, 0, 0)) (tr_l 11 (.getfield 86, 3, 7, 4)))) (tr_n 14 (tr_l 14 (.isub, 1, 0, 0)) (tr_n 15 (tr_l 15 (.istore_n 2, 1, 0, 0)) (tr_l 16 (.iload_n 2, 1, 0, 0)))))) (tr_n 26 (tr_n 20 (tr_n 17 (tr_l 17 (.ifCond .eq 19, 3, 36, 0)) (tr_l 20 (.iload_n 2, 1, 0, 0))) (tr_n 21 (tr_l 21 (.bipush (-128), 2, 0, 0)) (tr_n 23 (tr_l 23 (.if_icmp .lt 13, 3, 36, 0)) (tr_l 26 (.iload_n 2, 1, 0, 0))))) (tr_n 32 (tr_n 27 (tr_l 27 (.bipush 127, 2, 0, 0)) (tr_n 29 (tr_l 29 (.if_icmp .gt 7, 3, 36, 0)) (tr_l 32 (.iconst 1, 1, 0, 0)))) (tr_n 33 (tr_l 33 (.goto 4, 3, 37, 0)) (tr_n 36 (tr_l 36 (.iconst 0, 1, 0, 0)) (tr_l 37 (.ireturn, 1, 2, 0)))))))
def c_Text_addressOf : Nat → Option eg_E := (tr_n 17 (tr_n 9 (tr_n 4 (tr_n 0 (tr_l 0 (.aload_n 0, 1, 0, 0)) (tr_n 1 (tr_l 1 (.getfield 20, 3, 2, 3)) (tr_l 4 (.getfield 41, 3, 1, 5)))) (tr_n 7 (tr_l 7 (.iload_n 1, 1, 0, 0)) (tr_n 8 (tr_l 8 (.iaload, 1, 0, 0)) (tr_l 9 (.istore_n 2, 1, 0, 0))))) (tr_n 12 (tr_n 10 (tr_l 10 (.iload_n 2, 1, 0, 0)) (tr_n 11 (tr_l 11 (.iconst (-1), 1, 0, 0)) (tr_l 12 (.if_icmp .ne 5, 3, 17, 0)))) (tr_n 15 (tr_l 15 (.iconst 0, 1, 0, 0)) (tr_n 16 (tr_l 16 (.ireturn, 1, 1, 0)) (tr_l 17 (.iload_n 2, 1, 0, 0)))))) (tr_n 29 (tr_n 22 (tr_n 18 (tr_l 18 (.aload_n 0, 1, 0, 0)) (tr_n 19 (tr_l 19 (.getfield 25, 3, 1, 3)) (tr_l 22 (.if_icmp .ge 15, 3, 37, 0)))) (tr_n 25 (tr_l 25 (.aload_n 0, 1, 0, 0)) (tr_n 26 (tr_l 26 (.getfield 11, 3, 0, 3)) (tr_l 29 (.iload_n 2, 1, 0, 0))))) (tr_n 34 (tr_n 30 (tr_l 30 (.aaload, 1, 0, 0)) (tr_n 31 (tr_l 31 (.getfield 86, 3, 7, 4)) (tr_l 34 (.goto 7, 3, 41, 0)))) (tr_n 37 (tr_l 37 (.aload_n 0, 1, 0, 0)) (tr_n 38 (tr_l 38 (.getfield 93, 3, 3, 3)) (tr_l 41 (.ireturn, 1, 1, 0)))))))
def c_Draft_kindOfFirstWord : Nat → Option eg_E := (tr_n 15 (tr_n 6 (tr_n 1 (tr_n 0 (tr_l 0 (.iconst 0, 1, 0, 0)) (tr_l 1 (.istore_n 1, 1, 0, 0))) (tr_n 2 (tr_l 2 (.iload_n 1, 1, 0, 0)) (tr_n 3 (tr_l 3 (.getstatic 28, 3, 16, 0)) (tr_l 6 (.arraylength, 1, 0, 0))))) (tr_n 10 (tr_n 7 (tr_l 7 (.if_icmp .ge 30, 3, 37, 0)) (tr_l 10 (.aload_n 0, 1, 0, 0))) (tr_n 11 (tr_l 11 (.getstatic 28, 3, 16, 0)) (tr_n 14 (tr_l 14 (.iload_n 1, 1, 0, 0)) (tr_l 15 (.aaload, 1, 0, 0)))))) (tr_n 28 (tr_n 19 (tr_n 16 (tr_l 16 (.getfield 32, 3, 3, 11)) (tr_l 19 (.invokevirtual 38, 3, 27, 2))) (tr_n 22 (tr_l 22 (.ifCond .eq 9, 3, 31, 0)) (tr_n 25 (tr_l 25 (.getstatic 28, 3, 16, 0)) (tr_l 28 (.iload_n 1, 1, 0, 0))))) (tr_n 31 (tr_n 29 (tr_l 29 (.aaload, 1, 0, 0)) (tr_n 30 (tr_l 30 (.areturn, 1, 0, 0)) (tr_l 31 (.iinc 1 1, 3, 0, 0)))) (tr_n 34 (tr_l 34 (.goto (-32), 3, 2, 0)) (tr_n 37 (tr_l 37 (.aconst_null, 1, 0, 0)) (tr_l 38 (.areturn, 1, 0, 0)))))))
def c_Draft_firstWordIs : Nat → Option eg_E := (tr_n 26 (tr_n 12 (tr_n 5 (tr_n 1 (tr_n 0 (tr_l 0 (.aload_n 0, 1, 0, 0)) (tr_l 1 (.getfield 15, 3, 2, 2))) (tr_n 4 (tr_l 4 (.iconst 0, 1, 0, 0)) (tr_l 5 (.iaload, 1, 0, 0)))) (tr_n 7 (tr_n 6 (tr_l 6 (.istore_n 2, 1, 0, 0)) (tr_l 7 (.aload_n 0, 1, 0, 0))) (tr_n 8 (tr_l 8 (.getfield 18, 3, 3, 2)) (tr_n 11 (tr_l 11 (.iconst 0, 1, 0, 0)) (tr_l 12 (.iaload, 1, 0, 0)))))) (tr_n 19 (tr_n 14 (tr_n 13 (tr_l 13 (.iload_n 2, 1, 0, 0)) (tr_l 14 (.isub, 1, 0, 0))) (tr_n 15 (tr_l 15 (.aload_n 1, 1, 0, 0)) (tr_n 16 (tr_l 16 (.invokevirtual 42, 3, 135, 12)) (tr_l 19 (.if_icmp .eq 5, 3, 24, 0))))) (tr_n 23 (tr_n 22 (tr_l 22 (.iconst 0, 1, 0, 0)) (tr_l 23 (.ireturn, 1, 2, 0))) (tr_n 24 (tr_l 24 (.iconst 0, 1, 0, 0)) (tr_n 25 (tr_l 25 (.istore_n 3, 1, 0, 0)) (tr_l 26 (.iload_n 3, 1, 0, 0))))))) (tr_n 41 (tr_n 34 (tr_n 28 (tr_n 27 (tr_l 27 (.aload_n 1, 1, 0, 0)) (tr_l 28 (.invokevirtual 42, 3, 135, 12))) (tr_n 31 (tr_l 31 (.if_icmp .ge 27, 3, 58, 0)) (tr_l 34 (.aload_n 0, 1, 0, 0)))) (tr_n 38 (tr_n 35 (tr_l 35 (.getfield 9, 3, 0, 2)) (tr_l 38 (.iload_n 2, 1, 0, 0))) (tr_n 39 (tr_l 39 (.iload_n 3, 1, 0, 0)) (tr_n 40 (tr_l 40 (.iadd, 1, 0, 0)) (tr_l 41 (.iaload, 1, 0, 0)))))) (tr_n 50 (tr_n 43 (tr_n 42 (tr_l 42 (.aload_n 1, 1, 0, 0)) (tr_l 43 (.iload_n 3, 1, 0, 0))) (tr_n 44 (tr_l 44 (.invokevirtual 47, 3, 137, 12)) (tr_n 47 (tr_l 47 (.if_icmp .eq 5, 3, 52, 0)) (tr_l 50 (.iconst 0, 1, 0, 0))))) (tr_n 52 (tr_n 51 (tr_l 51 (.ireturn, 1, 2, 0)) (tr_l 52 (.iinc 3 1, 3, 0, 0))) (tr_n 55 (tr_l 55 (.goto (-29), 3, 26, 0)) (tr_n 58 (tr_l 58 (.iconst 1, 1, 0, 0)) (tr_l 59 (.ireturn, 1, 2, 0))))))))
def c_Text_spare : Nat → Option eg_E := (tr_n 4 (tr_n 0 (tr_l 0 (.aload_n 0, 1, 0, 0)) (tr_n 1 (tr_l 1 (.getfield 11, 3, 0, 3)) (tr_l 4 (.aload_n 0, 1, 0, 0)))) (tr_n 5 (tr_l 5 (.getfield 25, 3, 1, 3)) (tr_n 8 (tr_l 8 (.aaload, 1, 0, 0)) (tr_l 9 (.areturn, 1, 0, 0)))))
def c_Item_begin : Nat → Option eg_E := (tr_n 21 (tr_n 10 (tr_n 2 (tr_n 0 (tr_l 0 (.aload_n 0, 1, 0, 0)) (tr_n 1 (tr_l 1 (.aload_n 1, 1, 0, 0)) (tr_l 2 (.putfield 15, 3, 0, 4)))) (tr_n 6 (tr_n 5 (tr_l 5 (.aload_n 0, 1, 0, 0)) (tr_l 6 (.iconst 0, 1, 0, 0))) (tr_n 7 (tr_l 7 (.putfield 30, 3, 1, 4)) (tr_l 10 (.aload_n 0, 1, 0, 0))))) (tr_n 15 (tr_n 11 (tr_l 11 (.getfield 20, 3, 2, 4)) (tr_n 14 (tr_l 14 (.iconst 0, 1, 0, 0)) (tr_l 15 (.iconst 0, 1, 0, 0)))) (tr_n 17 (tr_n 16 (tr_l 16 (.iastore, 1, 0, 0)) (tr_l 17 (.aload_n 0, 1, 0, 0))) (tr_n 18 (tr_l 18 (.getfield 20, 3, 2, 4)) (tr_l 21 (.iconst 1, 1, 0, 0)))))) (tr_n 30 (tr_n 24 (tr_n 22 (tr_l 22 (.iconst 0, 1, 0, 0)) (tr_n 23 (tr_l 23 (.iastore, 1, 0, 0)) (tr_l 24 (.aload_n 0, 1, 0, 0)))) (tr_n 28 (tr_n 25 (tr_l 25 (.getfield 20, 3, 2, 4)) (tr_l 28 (.iconst 2, 1, 0, 0))) (tr_n 29 (tr_l 29 (.iconst 0, 1, 0, 0)) (tr_l 30 (.iastore, 1, 0, 0))))) (tr_n 33 (tr_n 31 (tr_l 31 (.aload_n 0, 1, 0, 0)) (tr_n 32 (tr_l 32 (.iconst 0, 1, 0, 0)) (tr_l 33 (.putfield 34, 3, 3, 4)))) (tr_n 37 (tr_n 36 (tr_l 36 (.aload_n 0, 1, 0, 0)) (tr_l 37 (.iconst 0, 1, 0, 0))) (tr_n 38 (tr_l 38 (.putfield 38, 3, 4, 4)) (tr_l 41 (.return_, 1, 0, 0)))))))
def c_U_takeArguments : Nat → Option eg_E := (tr_n 35 (tr_n 15 (tr_n 8 (tr_n 1 (tr_n 0 (tr_l 0 (.aload_n 0, 1, 0, 0)) (tr_l 1 (.getfield 12, 3, 0, 1))) (tr_n 4 (tr_l 4 (.getfield 184, 3, 4, 2)) (tr_n 7 (tr_l 7 (.iconst 1, 1, 0, 0)) (tr_l 8 (.isub, 1, 0, 0))))) (tr_n 10 (tr_n 9 (tr_l 9 (.istore_n 2, 1, 0, 0)) (tr_l 10 (.iload_n 2, 1, 0, 0))) (tr_n 11 (tr_l 11 (.aload_n 1, 1, 0, 0)) (tr_n 12 (tr_l 12 (.getfield 96, 3, 0, 4)) (tr_l 15 (.invokevirtual 212, 3, 31, 11)))))) (tr_n 26 (tr_n 21 (tr_n 18 (tr_l 18 (.if_icmp .lt 14, 3, 32, 0)) (tr_l 21 (.iload_n 2, 1, 0, 0))) (tr_n 22 (tr_l 22 (.aload_n 1, 1, 0, 0)) (tr_n 23 (tr_l 23 (.getfield 96, 3, 0, 4)) (tr_l 26 (.invokevirtual 215, 3, 32, 11))))) (tr_n 32 (tr_n 29 (tr_l 29 (.if_icmp .le 5, 3, 34, 0)) (tr_l 32 (.iconst 0, 1, 0, 0))) (tr_n 33 (tr_l 33 (.ireturn, 1, 2, 0)) (tr_n 34 (tr_l 34 (.iconst 0, 1, 0, 0)) (tr_l 35 (.istore_n 3, 1, 0, 0))))))) (tr_n 51 (tr_n 42 (tr_n 37 (tr_n 36 (tr_l 36 (.iload_n 3, 1, 0, 0)) (tr_l 37 (.iload_n 2, 1, 0, 0))) (tr_n 38 (tr_l 38 (.if_icmp .ge 30, 3, 68, 0)) (tr_n 41 (tr_l 41 (.aload_n 0, 1, 0, 0)) (tr_l 42 (.aload_n 1, 1, 0, 0))))) (tr_n 44 (tr_n 43 (tr_l 43 (.aload_n 1, 1, 0, 0)) (tr_l 44 (.getfield 96, 3, 0, 4))) (tr_n 47 (tr_l 47 (.iload_n 3, 1, 0, 0)) (tr_n 48 (tr_l 48 (.invokevirtual 218, 3, 33, 11)) (tr_l 51 (.iload_n 3, 1, 0, 0)))))) (tr_n 60 (tr_n 53 (tr_n 52 (tr_l 52 (.iconst 1, 1, 0, 0)) (tr_l 53 (.iadd, 1, 0, 0))) (tr_n 54 (tr_l 54 (.invokevirtual 221, 3, 34, 1)) (tr_n 57 (tr_l 57 (.ifCond .ne 5, 3, 62, 0)) (tr_l 60 (.iconst 0, 1, 0, 0))))) (tr_n 62 (tr_n 61 (tr_l 61 (.ireturn, 1, 2, 0)) (tr_l 62 (.iinc 3 1, 3, 0, 0))) (tr_n 65 (tr_l 65 (.goto (-29), 3, 36, 0)) (tr_n 68 (tr_l 68 (.iconst 1, 1, 0, 0)) (tr_l 69 (.ireturn, 1, 2, 0))))))))
def c_Kind_leastArguments : Nat → Option eg_E := (tr_n 1 (tr_n 0 (tr_l 0 (.aload_n 0, 1, 0, 0)) (tr_l 1 (.getfield 84, 3, 4, 11))) (tr_n 4 (tr_l 4 (.invokevirtual 103, 3, 135, 12)) (tr_l 7 (.ireturn, 1, 1, 0))))
def c_Kind_mostArguments : Nat → Option eg_E := (tr_n 7 (tr_n 1 (tr_n 0 (tr_l 0 (.aload_n 0, 1, 0, 0)) (tr_l 1 (.getstatic 51, 3, 15, 0))) (tr_n 4 (tr_l 4 (.if_acmp .ne 7, 3, 11, 0)) (tr_l 7 (.iconst 5, 1, 0, 0)))) (tr_n 11 (tr_n 8 (tr_l 8 (.goto 10, 3, 18, 0)) (tr_l 11 (.aload_n 0, 1, 0, 0))) (tr_n 12 (tr_l 12 (.getfield 84, 3, 4, 11)) (tr_n 15 (tr_l 15 (.invokevirtual 103, 3, 135, 12)) (tr_l 18 (.ireturn, 1, 1, 0))))))
def c_Kind_argument : Nat → Option eg_E := (tr_n 12 (tr_n 4 (tr_n 0 (tr_l 0 (.iload_n 1, 1, 0, 0)) (tr_n 1 (tr_l 1 (.ifCond .lt 25, 3, 26, 0)) (tr_l 4 (.iload_n 1, 1, 0, 0)))) (tr_n 6 (tr_n 5 (tr_l 5 (.aload_n 0, 1, 0, 0)) (tr_l 6 (.getfield 84, 3, 4, 11))) (tr_n 9 (tr_l 9 (.invokevirtual 103, 3, 135, 12)) (tr_l 12 (.if_icmp .ge 14, 3, 26, 0))))) (tr_n 19 (tr_n 15 (tr_l 15 (.aload_n 0, 1, 0, 0)) (tr_n 16 (tr_l 16 (.getfield 84, 3, 4, 11)) (tr_l 19 (.iload_n 1, 1, 0, 0)))) (tr_n 23 (tr_n 20 (tr_l 20 (.invokevirtual 107, 3, 137, 12)) (tr_l 23 (.goto 5, 3, 28, 0))) (tr_n 26 (tr_l 26 (.bipush 76, 2, 0, 0)) (tr_l 28 (.ireturn, 1, 3, 0))))))
def c_U_takeArgument : Nat → Option eg_E := (tr_n 26 (tr_n 11 (tr_n 3 (tr_n 0 (tr_l 0 (.iload_n 2, 1, 0, 0)) (tr_n 1 (tr_l 1 (.bipush 110, 2, 0, 0)) (tr_l 3 (.if_icmp .ne 16, 3, 19, 0)))) (tr_n 7 (tr_n 6 (tr_l 6 (.aload_n 1, 1, 0, 0)) (tr_l 7 (.aload_n 0, 1, 0, 0))) (tr_n 8 (tr_l 8 (.getfield 12, 3, 0, 1)) (tr_l 11 (.iload_n 3, 1, 0, 0))))) (tr_n 19 (tr_n 15 (tr_n 12 (tr_l 12 (.invokevirtual 225, 3, 35, 2)) (tr_l 15 (.invokevirtual 228, 3, 37, 4))) (tr_n 18 (tr_l 18 (.ireturn, 1, 2, 0)) (tr_l 19 (.iload_n 2, 1, 0, 0)))) (tr_n 22 (tr_n 20 (tr_l 20 (.bipush 76, 2, 0, 0)) (tr_l 22 (.if_icmp .ne 16, 3, 38, 0))) (tr_n 25 (tr_l 25 (.aload_n 1, 1, 0, 0)) (tr_l 26 (.aload_n 0, 1, 0, 0)))))) (tr_n 39 (tr_n 31 (tr_n 27 (tr_l 27 (.getfield 12, 3, 0, 1)) (tr_n 30 (tr_l 30 (.iload_n 3, 1, 0, 0)) (tr_l 31 (.invokevirtual 187, 3, 14, 2)))) (tr_n 37 (tr_n 34 (tr_l 34 (.invokevirtual 231, 3, 39, 4)) (tr_l 37 (.ireturn, 1, 2, 0))) (tr_n 38 (tr_l 38 (.aload_n 1, 1, 0, 0)) (tr_l 39 (.iload_n 2, 1, 0, 0))))) (tr_n 44 (tr_n 42 (tr_n 40 (tr_l 40 (.bipush 65, 2, 0, 0)) (tr_l 42 (.isub, 1, 0, 0))) (tr_n 43 (tr_l 43 (.aload_n 0, 1, 0, 0)) (tr_l 44 (.getfield 12, 3, 0, 1)))) (tr_n 48 (tr_n 47 (tr_l 47 (.iload_n 3, 1, 0, 0)) (tr_l 48 (.invokevirtual 234, 3, 40, 2))) (tr_n 51 (tr_l 51 (.invokevirtual 237, 3, 41, 4)) (tr_l 54 (.ireturn, 1, 2, 0)))))))
def c_Draft_number : Nat → Option eg_E := (tr_n 37 (tr_n 17 (tr_n 8 (tr_n 1 (tr_n 0 (tr_l 0 (.aload_n 0, 1, 0, 0)) (tr_l 1 (.getfield 9, 3, 0, 2))) (tr_n 4 (tr_l 4 (.aload_n 0, 1, 0, 0)) (tr_n 5 (tr_l 5 (.getfield 15, 3, 2, 2)) (tr_l 8 (.iload_n 1, 1, 0, 0))))) (tr_n 11 (tr_n 9 (tr_l 9 (.iaload, 1, 0, 0)) (tr_n 10 (tr_l 10 (.iaload, 1, 0, 0)) (tr_l 11 (.bipush 45, 2, 0, 0)))) (tr_n 13 (tr_l 13 (.if_icmp .ne 7, 3, 20, 0)) (tr_n 16 (tr_l 16 (.iconst 1, 1, 0, 0)) (tr_l 17 (.goto 4, 3, 21, 0)))))) (tr_n 27 (tr_n 22 (tr_n 20 (tr_l 20 (.iconst 0, 1, 0, 0)) (tr_n 21 (tr_l 21 (.istore_n 2, 1, 0, 0)) (tr_l 22 (.aload_n 0, 1, 0, 0)))) (tr_n 23 (tr_l 23 (.aload_n 0, 1, 0, 0)) (tr_n 24 (tr_l 24 (.getfield 15, 3, 2, 2)) (tr_l 27 (.iload_n 1, 1, 0, 0))))) (tr_n 30 (tr_n 28 (tr_l 28 (.iaload, 1, 0, 0)) (tr_n 29 (tr_l 29 (.iload_n 2, 1, 0, 0)) (tr_l 30 (.ifCond .eq 7, 3, 37, 0)))) (tr_n 33 (tr_l 33 (.iconst 1, 1, 0, 0)) (tr_n 34 (tr_l 34 (.goto 4, 3, 38, 0)) (tr_l 37 (.iconst 0, 1, 0, 0))))))) (tr_n 55 (tr_n 44 (tr_n 39 (tr_n 38 (tr_l 38 (.iadd, 1, 0, 0)) (tr_l 39 (.aload_n 0, 1, 0, 0))) (tr_n 40 (tr_l 40 (.getfield 18, 3, 3, 2)) (tr_n 43 (tr_l 43 (.iload_n 1, 1, 0, 0)) (tr_l 44 (.iaload, 1, 0, 0))))) (tr_n 49 (tr_n 45 (tr_l 45 (.invokevirtual 51, 3, 36, 2)) (tr_n 48 (tr_l 48 (.istore_n 3, 1, 0, 0)) (tr_l 49 (.iload_n 3, 1, 0, 0)))) (tr_n 50 (tr_l 50 (.ldc 55, 2, 2147483648, 0)) (tr_n 52 (tr_l 52 (.if_icmp .eq 11, 3, 63, 0)) (tr_l 55 (.iload_n 2, 1, 0, 0)))))) (tr_n 66 (tr_n 60 (tr_n 56 (tr_l 56 (.ifCond .eq 10, 3, 66, 0)) (tr_n 59 (tr_l 59 (.iload_n 3, 1, 0, 0)) (tr_l 60 (.ifCond .ne 6, 3, 66, 0)))) (tr_n 63 (tr_l 63 (.ldc 55, 2, 2147483648, 0)) (tr_n 65 (tr_l 65 (.ireturn, 1, 1, 0)) (tr_l 66 (.iload_n 2, 1, 0, 0))))) (tr_n 71 (tr_n 67 (tr_l 67 (.ifCond .eq 8, 3, 75, 0)) (tr_n 70 (tr_l 70 (.iload_n 3, 1, 0, 0)) (tr_l 71 (.ineg, 1, 0, 0)))) (tr_n 72 (tr_l 72 (.goto 4, 3, 76, 0)) (tr_n 75 (tr_l 75 (.iload_n 3, 1, 0, 0)) (tr_l 76 (.ireturn, 1, 1, 0))))))))
def c_Draft_digits : Nat → Option eg_E := (tr_n 42 (tr_n 19 (tr_n 6 (tr_n 2 (tr_n 0 (tr_l 0 (.iload_n 2, 1, 0, 0)) (tr_n 1 (tr_l 1 (.iload_n 1, 1, 0, 0)) (tr_l 2 (.isub, 1, 0, 0)))) (tr_n 4 (tr_n 3 (tr_l 3 (.istore_n 3, 1, 0, 0)) (tr_l 4 (.iload_n 3, 1, 0, 0))) (tr_n 5 (tr_l 5 (.iconst 1, 1, 0, 0)) (tr_l 6 (.if_icmp .lt 24, 3, 30, 0))))) (tr_n 11 (tr_n 9 (tr_l 9 (.iload_n 3, 1, 0, 0)) (tr_n 10 (tr_l 10 (.iconst 5, 1, 0, 0)) (tr_l 11 (.if_icmp .gt 19, 3, 30, 0)))) (tr_n 15 (tr_n 14 (tr_l 14 (.iload_n 3, 1, 0, 0)) (tr_l 15 (.iconst 1, 1, 0, 0))) (tr_n 16 (tr_l 16 (.if_icmp .le 17, 3, 33, 0)) (tr_l 19 (.aload_n 0, 1, 0, 0)))))) (tr_n 32 (tr_n 24 (tr_n 20 (tr_l 20 (.getfield 9, 3, 0, 2)) (tr_n 23 (tr_l 23 (.iload_n 1, 1, 0, 0)) (tr_l 24 (.iaload, 1, 0, 0)))) (tr_n 27 (tr_n 25 (tr_l 25 (.bipush 48, 2, 0, 0)) (tr_l 27 (.if_icmp .ne 6, 3, 33, 0))) (tr_n 30 (tr_l 30 (.ldc 55, 2, 2147483648, 0)) (tr_l 32 (.ireturn, 1, 1, 0))))) (tr_n 36 (tr_n 33 (tr_l 33 (.iconst 0, 1, 0, 0)) (tr_n 34 (tr_l 34 (.istore 4, 2, 0, 0)) (tr_l 36 (.iload_n 1, 1, 0, 0)))) (tr_n 39 (tr_n 37 (tr_l 37 (.istore 5, 2, 0, 0)) (tr_l 39 (.iload 5, 2, 0, 0))) (tr_n 41 (tr_l 41 (.iload_n 2, 1, 0, 0)) (tr_l 42 (.if_icmp .ge 54, 3, 96, 0))))))) (tr_n 71 (tr_n 57 (tr_n 49 (tr_n 45 (tr_l 45 (.aload_n 0, 1, 0, 0)) (tr_n 46 (tr_l 46 (.getfield 9, 3, 0, 2)) (tr_l 49 (.iload 5, 2, 0, 0)))) (tr_n 52 (tr_n 51 (tr_l 51 (.iaload, 1, 0, 0)) (tr_l 52 (.bipush 48, 2, 0, 0))) (tr_n 54 (tr_l 54 (.if_icmp .lt 15, 3, 69, 0)) (tr_l 57 (.aload_n 0, 1, 0, 0))))) (tr_n 63 (tr_n 58 (tr_l 58 (.getfield 9, 3, 0, 2)) (tr_n 61 (tr_l 61 (.iload 5, 2, 0, 0)) (tr_l 63 (.iaload, 1, 0, 0)))) (tr_n 66 (tr_n 64 (tr_l 64 (.bipush 57, 2, 0, 0)) (tr_l 66 (.if_icmp .le 6, 3, 72, 0))) (tr_n 69 (tr_l 69 (.ldc 55, 2, 2147483648, 0)) (tr_l 71 (.ireturn, 1, 1, 0)))))) (tr_n 83 (tr_n 76 (tr_n 72 (tr_l 72 (.bipush 10, 2, 0, 0)) (tr_n 74 (tr_l 74 (.iload 4, 2, 0, 0)) (tr_l 76 (.imul, 1, 0, 0)))) (tr_n 78 (tr_n 77 (tr_l 77 (.aload_n 0, 1, 0, 0)) (tr_l 78 (.getfield 9, 3, 0, 2))) (tr_n 81 (tr_l 81 (.iload 5, 2, 0, 0)) (tr_l 83 (.iaload, 1, 0, 0))))) (tr_n 88 (tr_n 85 (tr_n 84 (tr_l 84 (.iadd, 1, 0, 0)) (tr_l 85 (.bipush 48, 2, 0, 0))) (tr_n 87 (tr_l 87 (.isub, 1, 0, 0)) (tr_l 88 (.istore 4, 2, 0, 0)))) (tr_n 93 (tr_n 90 (tr_l 90 (.iinc 5 1, 3, 0, 0)) (tr_l 93 (.goto (-54), 3, 39, 0))) (tr_n 96 (tr_l 96 (.iload 4, 2, 0, 0)) (tr_l 98 (.ireturn, 1, 1, 0))))))))
def c_Item_takeNumber : Nat → Option eg_E := (tr_n 20 (tr_n 11 (tr_n 4 (tr_n 0 (tr_l 0 (.aload_n 0, 1, 0, 0)) (tr_n 1 (tr_l 1 (.getfield 15, 3, 0, 4)) (tr_l 4 (.iload_n 1, 1, 0, 0)))) (tr_n 5 (tr_l 5 (.invokevirtual 41, 3, 38, 11)) (tr_n 8 (tr_l 8 (.ifCond .ne 5, 3, 13, 0)) (tr_l 11 (.iconst 0, 1, 0, 0))))) (tr_n 14 (tr_n 12 (tr_l 12 (.ireturn, 1, 2, 0)) (tr_n 13 (tr_l 13 (.aload_n 0, 1, 0, 0)) (tr_l 14 (.iload_n 1, 1, 0, 0)))) (tr_n 18 (tr_n 15 (tr_l 15 (.putfield 34, 3, 3, 4)) (tr_l 18 (.aload_n 0, 1, 0, 0))) (tr_n 19 (tr_l 19 (.aload_n 0, 1, 0, 0)) (tr_l 20 (.getfield 15, 3, 0, 4)))))) (tr_n 36 (tr_n 29 (tr_n 23 (tr_l 23 (.getstatic 45, 3, 3, 0)) (tr_n 26 (tr_l 26 (.if_acmp .ne 19, 3, 45, 0)) (tr_l 29 (.iload_n 1, 1, 0, 0)))) (tr_n 32 (tr_n 30 (tr_l 30 (.bipush (-8), 2, 0, 0)) (tr_l 32 (.if_icmp .lt 9, 3, 41, 0))) (tr_n 35 (tr_l 35 (.iload_n 1, 1, 0, 0)) (tr_l 36 (.bipush 7, 2, 0, 0))))) (tr_n 42 (tr_n 38 (tr_l 38 (.if_icmp .le 7, 3, 45, 0)) (tr_n 41 (tr_l 41 (.iconst 1, 1, 0, 0)) (tr_l 42 (.goto 4, 3, 46, 0)))) (tr_n 46 (tr_n 45 (tr_l 45 (.iconst 0, 1, 0, 0)) (tr_l 46 (.putfield 30, 3, 1, 4))) (tr_n 49 (tr_l 49 (.iconst 1, 1, 0, 0)) (tr_l 50 (.ireturn, 1, 2, 0)))))))
def c_Kind_holdsNumber : Nat → Option eg_E := (tr_n 17 (tr_n 7 (tr_n 1 (tr_n 0 (tr_l 0 (.aload_n 0, 1, 0, 0)) (tr_l 1 (.getstatic 30, 3, 8, 0))) (tr_n 4 (tr_l 4 (.if_acmp .ne 9, 3, 13, 0)) (tr_l 7 (.sipush 128, 3, 0, 0)))) (tr_n 13 (tr_n 10 (tr_l 10 (.goto 5, 3, 15, 0)) (tr_l 13 (.ldc 111, 2, 32768, 0))) (tr_n 15 (tr_l 15 (.istore_n 2, 1, 0, 0)) (tr_n 16 (tr_l 16 (.iload_n 1, 1, 0, 0)) (tr_l 17 (.iload_n 2, 1, 0, 0)))))) (tr_n 23 (tr_n 19 (tr_n 18 (tr_l 18 (.ineg, 1, 0, 0)) (tr_l 19 (.if_icmp .lt 12, 3, 31, 0))) (tr_n 22 (tr_l 22 (.iload_n 1, 1, 0, 0)) (tr_l 23 (.iload_n 2, 1, 0, 0)))) (tr_n 27 (tr_n 24 (tr_l 24 (.if_icmp .ge 7, 3, 31, 0)) (tr_l 27 (.iconst 1, 1, 0, 0))) (tr_n 28 (tr_l 28 (.goto 4, 3, 32, 0)) (tr_n 31 (tr_l 31 (.iconst 0, 1, 0, 0)) (tr_l 32 (.ireturn, 1, 2, 0)))))))
def c_Item_takeName : Nat → Option eg_E := (tr_n 18 (tr_n 8 (tr_n 1 (tr_n 0 (tr_l 0 (.iload_n 1, 1, 0, 0)) (tr_l 1 (.ifCond .eq 11, 3, 12, 0))) (tr_n 4 (tr_l 4 (.aload_n 0, 1, 0, 0)) (tr_n 5 (tr_l 5 (.getfield 38, 3, 4, 4)) (tr_l 8 (.iconst 4, 1, 0, 0))))) (tr_n 13 (tr_n 9 (tr_l 9 (.if_icmp .lt 5, 3, 14, 0)) (tr_n 12 (tr_l 12 (.iconst 0, 1, 0, 0)) (tr_l 13 (.ireturn, 1, 2, 0)))) (tr_n 14 (tr_l 14 (.aload_n 0, 1, 0, 0)) (tr_n 15 (tr_l 15 (.getfield 24, 3, 5, 4)) (tr_l 18 (.aload_n 0, 1, 0, 0)))))) (tr_n 25 (tr_n 22 (tr_n 19 (tr_l 19 (.getfield 38, 3, 4, 4)) (tr_l 22 (.iload_n 1, 1, 0, 0))) (tr_n 23 (tr_l 23 (.iastore, 1, 0, 0)) (tr_n 24 (tr_l 24 (.aload_n 0, 1, 0, 0)) (tr_l 25 (.dup, 1, 0, 0))))) (tr_n 30 (tr_n 26 (tr_l 26 (.getfield 38, 3, 4, 4)) (tr_n 29 (tr_l 29 (.iconst 1, 1, 0, 0)) (tr_l 30 (.iadd, 1, 0, 0)))) (tr_n 31 (tr_l 31 (.putfield 38, 3, 4, 4)) (tr_n 34 (tr_l 34 (.iconst 1, 1, 0, 0)) (tr_l 35 (.ireturn, 1, 2, 0)))))))
def c_Draft_register : Nat → Option eg_E := (tr_n 24 (tr_n 11 (tr_n 5 (tr_n 1 (tr_n 0 (tr_l 0 (.aload_n 0, 1, 0, 0)) (tr_l 1 (.getfield 9, 3, 0, 2))) (tr_n 4 (tr_l 4 (.aload_n 0, 1, 0, 0)) (tr_l 5 (.getfield 15, 3, 2, 2)))) (tr_n 9 (tr_n 8 (tr_l 8 (.iload_n 1, 1, 0, 0)) (tr_l 9 (.iaload, 1, 0, 0))) (tr_n 10 (tr_l 10 (.iaload, 1, 0, 0)) (tr_l 11 (.bipush 118, 2, 0, 0))))) (tr_n 18 (tr_n 16 (tr_n 13 (tr_l 13 (.if_icmp .eq 5, 3, 18, 0)) (tr_l 16 (.iconst (-1), 1, 0, 0))) (tr_n 17 (tr_l 17 (.ireturn, 1, 1, 0)) (tr_l 18 (.aload_n 0, 1, 0, 0)))) (tr_n 20 (tr_n 19 (tr_l 19 (.aload_n 0, 1, 0, 0)) (tr_l 20 (.getfield 15, 3, 2, 2))) (tr_n 23 (tr_l 23 (.iload_n 1, 1, 0, 0)) (tr_l 24 (.iaload, 1, 0, 0)))))) (tr_n 36 (tr_n 28 (tr_n 26 (tr_n 25 (tr_l 25 (.iconst 1, 1, 0, 0)) (tr_l 26 (.iadd, 1, 0, 0))) (tr_n 27 (tr_l 27 (.aload_n 0, 1, 0, 0)) (tr_l 28 (.getfield 18, 3, 3, 2)))) (tr_n 32 (tr_n 31 (tr_l 31 (.iload_n 1, 1, 0, 0)) (tr_l 32 (.iaload, 1, 0, 0))) (tr_n 33 (tr_l 33 (.invokevirtual 51, 3, 36, 2)) (tr_l 36 (.istore_n 2, 1, 0, 0))))) (tr_n 42 (tr_n 38 (tr_n 37 (tr_l 37 (.iload_n 2, 1, 0, 0)) (tr_l 38 (.ifCond .lt 13, 3, 51, 0))) (tr_n 41 (tr_l 41 (.iload_n 2, 1, 0, 0)) (tr_l 42 (.bipush 16, 2, 0, 0)))) (tr_n 47 (tr_n 44 (tr_l 44 (.if_icmp .ge 7, 3, 51, 0)) (tr_l 47 (.iload_n 2, 1, 0, 0))) (tr_n 48 (tr_l 48 (.goto 4, 3, 52, 0)) (tr_n 51 (tr_l 51 (.iconst (-1), 1, 0, 0)) (tr_l 52 (.ireturn, 1, 1, 0))))))))
def c_Item_takeRegister : Nat → Option eg_E := (tr_n 11 (tr_n 5 (tr_n 1 (tr_n 0 (tr_l 0 (.iload_n 2, 1, 0, 0)) (tr_l 1 (.iconst (-1), 1, 0, 0))) (tr_n 2 (tr_l 2 (.if_icmp .eq 12, 3, 14, 0)) (tr_l 5 (.iload_n 1, 1, 0, 0)))) (tr_n 9 (tr_n 6 (tr_l 6 (.ifCond .lt 8, 3, 14, 0)) (tr_l 9 (.iload_n 1, 1, 0, 0))) (tr_n 10 (tr_l 10 (.iconst 2, 1, 0, 0)) (tr_l 11 (.if_icmp .le 5, 3, 16, 0))))) (tr_n 17 (tr_n 15 (tr_n 14 (tr_l 14 (.iconst 0, 1, 0, 0)) (tr_l 15 (.ireturn, 1, 2, 0))) (tr_n 16 (tr_l 16 (.aload_n 0, 1, 0, 0)) (tr_l 17 (.getfield 20, 3, 2, 4)))) (tr_n 21 (tr_n 20 (tr_l 20 (.iload_n 1, 1, 0, 0)) (tr_l 21 (.iload_n 2, 1, 0, 0))) (tr_n 22 (tr_l 22 (.iastore, 1, 0, 0)) (tr_n 23 (tr_l 23 (.iconst 1, 1, 0, 0)) (tr_l 24 (.ireturn, 1, 2, 0)))))))
def c_Text_keepSpare : Nat → Option eg_E := (tr_n 28 (tr_n 13 (tr_n 4 (tr_n 0 (tr_l 0 (.aload_n 0, 1, 0, 0)) (tr_n 1 (tr_l 1 (.getfield 25, 3, 1, 3)) (tr_l 4 (.bipush 40, 2, 0, 0)))) (tr_n 9 (tr_n 6 (tr_l 6 (.if_icmp .ge 22, 3, 28, 0)) (tr_l 9 (.aload_n 0, 1, 0, 0))) (tr_n 10 (tr_l 10 (.getfield 20, 3, 2, 3)) (tr_l 13 (.aload_n 0, 1, 0, 0))))) (tr_n 18 (tr_n 14 (tr_l 14 (.getfield 11, 3, 0, 3)) (tr_n 17 (tr_l 17 (.aload_n 0, 1, 0, 0)) (tr_l 18 (.getfield 25, 3, 1, 3)))) (tr_n 22 (tr_n 21 (tr_l 21 (.aaload, 1, 0, 0)) (tr_l 22 (.invokevirtual 33, 3, 43, 5))) (tr_n 25 (tr_l 25 (.ifCond .ne 6, 3, 31, 0)) (tr_l 28 (.bipush (-3), 2, 0, 0)))))) (tr_n 38 (tr_n 32 (tr_n 30 (tr_l 30 (.ireturn, 1, 1, 0)) (tr_n 31 (tr_l 31 (.aload_n 0, 1, 0, 0)) (tr_l 32 (.dup, 1, 0, 0)))) (tr_n 36 (tr_n 33 (tr_l 33 (.getfield 25, 3, 1, 3)) (tr_l 36 (.iconst 1, 1, 0, 0))) (tr_n 37 (tr_l 37 (.iadd, 1, 0, 0)) (tr_l 38 (.putfield 25, 3, 1, 3))))) (tr_n 45 (tr_n 41 (tr_l 41 (.aload_n 0, 1, 0, 0)) (tr_n 42 (tr_l 42 (.invokevirtual 30, 3, 18, 3)) (tr_l 45 (.aload_n 0, 1, 0, 0)))) (tr_n 49 (tr_n 46 (tr_l 46 (.getfield 25, 3, 1, 3)) (tr_l 49 (.iconst 1, 1, 0, 0))) (tr_n 50 (tr_l 50 (.isub, 1, 0, 0)) (tr_l 51 (.ireturn, 1, 1, 0)))))))
def c_Labels_addAllOf : Nat → Option eg_E := (tr_n 25 (tr_n 9 (tr_n 5 (tr_n 1 (tr_n 0 (tr_l 0 (.aload_n 0, 1, 0, 0)) (tr_l 1 (.getfield 18, 3, 2, 5))) (tr_n 4 (tr_l 4 (.istore_n 2, 1, 0, 0)) (tr_l 5 (.iconst 0, 1, 0, 0)))) (tr_n 7 (tr_n 6 (tr_l 6 (.istore_n 3, 1, 0, 0)) (tr_l 7 (.iload_n 3, 1, 0, 0))) (tr_n 8 (tr_l 8 (.aload_n 1, 1, 0, 0)) (tr_l 9 (.getfield 26, 3, 4, 4))))) (tr_n 17 (tr_n 15 (tr_n 12 (tr_l 12 (.if_icmp .ge 43, 3, 55, 0)) (tr_l 15 (.aload_n 0, 1, 0, 0))) (tr_n 16 (tr_l 16 (.aload_n 1, 1, 0, 0)) (tr_l 17 (.getfield 31, 3, 5, 4)))) (tr_n 21 (tr_n 20 (tr_l 20 (.iload_n 3, 1, 0, 0)) (tr_l 21 (.iaload, 1, 0, 0))) (tr_n 22 (tr_l 22 (.invokevirtual 32, 3, 16, 5)) (tr_l 25 (.istore 4, 2, 0, 0)))))) (tr_n 40 (tr_n 34 (tr_n 29 (tr_n 27 (tr_l 27 (.iload 4, 2, 0, 0)) (tr_l 29 (.bipush (-3), 2, 0, 0))) (tr_n 31 (tr_l 31 (.if_icmp .ne 10, 3, 41, 0)) (tr_l 34 (.aload_n 0, 1, 0, 0)))) (tr_n 36 (tr_n 35 (tr_l 35 (.iload_n 2, 1, 0, 0)) (tr_l 36 (.putfield 18, 3, 2, 5))) (tr_n 39 (tr_l 39 (.iconst 0, 1, 0, 0)) (tr_l 40 (.ireturn, 1, 2, 0))))) (tr_n 46 (tr_n 42 (tr_n 41 (tr_l 41 (.aload_n 1, 1, 0, 0)) (tr_l 42 (.getfield 35, 3, 6, 4))) (tr_n 45 (tr_l 45 (.iload_n 3, 1, 0, 0)) (tr_l 46 (.iload 4, 2, 0, 0)))) (tr_n 49 (tr_n 48 (tr_l 48 (.iastore, 1, 0, 0)) (tr_l 49 (.iinc 3 1, 3, 0, 0))) (tr_n 52 (tr_l 52 (.goto (-45), 3, 7, 0)) (tr_n 55 (tr_l 55 (.iconst 1, 1, 0, 0)) (tr_l 56 (.ireturn, 1, 2, 0))))))))
def c_U_clear : Nat → Option eg_E := (tr_n 7 (tr_n 1 (tr_n 0 (tr_l 0 (.aload_n 0, 1, 0, 0)) (tr_l 1 (.getfield 21, 3, 1, 1))) (tr_n 4 (tr_l 4 (.getfield 68, 3, 1, 3)) (tr_l 7 (.istore_n 1, 1, 0, 0)))) (tr_n 9 (tr_n 8 (tr_l 8 (.aload_n 0, 1, 0, 0)) (tr_l 9 (.getfield 21, 3, 1, 1))) (tr_n 12 (tr_l 12 (.invokevirtual 71, 3, 45, 3)) (tr_n 15 (tr_l 15 (.iload_n 1, 1, 0, 0)) (tr_l 16 (.ireturn, 1, 1, 0))))))
def c_Text_empty : Nat → Option eg_E := (tr_n 6 (tr_n 1 (tr_n 0 (tr_l 0 (.aload_n 0, 1, 0, 0)) (tr_l 1 (.iconst 0, 1, 0, 0))) (tr_n 2 (tr_l 2 (.putfield 25, 3, 1, 3)) (tr_n 5 (tr_l 5 (.aload_n 0, 1, 0, 0)) (tr_l 6 (.getfield 20, 3, 2, 3))))) (tr_n 10 (tr_n 9 (tr_l 9 (.iconst 0, 1, 0, 0)) (tr_l 10 (.putfield 29, 3, 2, 5))) (tr_n 13 (tr_l 13 (.aload_n 0, 1, 0, 0)) (tr_n 14 (tr_l 14 (.invokevirtual 30, 3, 18, 3)) (tr_l 17 (.return_, 1, 0, 0))))))
def c_U_assemble : Nat → Option eg_E := (tr_n 30 (tr_n 13 (tr_n 4 (tr_n 0 (tr_l 0 (.aload_n 0, 1, 0, 0)) (tr_n 1 (tr_l 1 (.getfield 21, 3, 1, 1)) (tr_l 4 (.invokevirtual 74, 3, 47, 3)))) (tr_n 10 (tr_n 7 (tr_l 7 (.ifCond .ne 6, 3, 13, 0)) (tr_l 10 (.bipush (-6), 2, 0, 0))) (tr_n 12 (tr_l 12 (.ireturn, 1, 1, 0)) (tr_l 13 (.aload_n 0, 1, 0, 0))))) (tr_n 23 (tr_n 17 (tr_n 14 (tr_l 14 (.getfield 21, 3, 1, 1)) (tr_l 17 (.invokevirtual 78, 3, 49, 3))) (tr_n 20 (tr_l 20 (.ifCond .ne 6, 3, 26, 0)) (tr_l 23 (.bipush (-7), 2, 0, 0)))) (tr_n 26 (tr_n 25 (tr_l 25 (.ireturn, 1, 1, 0)) (tr_l 26 (.aload_n 0, 1, 0, 0))) (tr_n 27 (tr_l 27 (.getfield 21, 3, 1, 1)) (tr_l 30 (.getfield 81, 3, 3, 3)))))) (tr_n 47 (tr_n 41 (tr_n 36 (tr_n 33 (tr_l 33 (.sipush 200, 3, 0, 0)) (tr_l 36 (.if_icmp .le 6, 3, 42, 0))) (tr_n 39 (tr_l 39 (.bipush (-3), 2, 0, 0)) (tr_l 41 (.ireturn, 1, 1, 0)))) (tr_n 43 (tr_n 42 (tr_l 42 (.aload_n 0, 1, 0, 0)) (tr_l 43 (.getfield 21, 3, 1, 1))) (tr_n 46 (tr_l 46 (.aload_n 0, 1, 0, 0)) (tr_l 47 (.getfield 28, 3, 2, 1))))) (tr_n 57 (tr_n 53 (tr_n 50 (tr_l 50 (.invokevirtual 84, 3, 51, 3)) (tr_l 53 (.aload_n 0, 1, 0, 0))) (tr_n 54 (tr_l 54 (.getfield 42, 3, 4, 1)) (tr_l 57 (.invokevirtual 88, 3, 56, 8)))) (tr_n 61 (tr_n 60 (tr_l 60 (.aload_n 0, 1, 0, 0)) (tr_l 61 (.getfield 28, 3, 2, 1))) (tr_n 64 (tr_l 64 (.getfield 91, 3, 1, 6)) (tr_l 67 (.ireturn, 1, 1, 0)))))))
def c_Text_allLabelsAreSet : Nat → Option eg_E := (tr_n 1 (tr_n 0 (tr_l 0 (.aload_n 0, 1, 0, 0)) (tr_l 1 (.getfield 20, 3, 2, 3))) (tr_n 4 (tr_l 4 (.invokevirtual 45, 3, 48, 5)) (tr_l 7 (.ireturn, 1, 2, 0))))
def c_Labels_allAreSet : Nat → Option eg_E := (tr_n 14 (tr_n 3 (tr_n 1 (tr_n 0 (tr_l 0 (.iconst 0, 1, 0, 0)) (tr_l 1 (.istore_n 1, 1, 0, 0))) (tr_n 2 (tr_l 2 (.iload_n 1, 1, 0, 0)) (tr_l 3 (.aload_n 0, 1, 0, 0)))) (tr_n 7 (tr_n 4 (tr_l 4 (.getfield 18, 3, 2, 5)) (tr_l 7 (.if_icmp .ge 21, 3, 28, 0))) (tr_n 10 (tr_l 10 (.aload_n 0, 1, 0, 0)) (tr_n 11 (tr_l 11 (.getfield 15, 3, 1, 5)) (tr_l 14 (.iload_n 1, 1, 0, 0)))))) (tr_n 20 (tr_n 16 (tr_n 15 (tr_l 15 (.iaload, 1, 0, 0)) (tr_l 16 (.iconst (-1), 1, 0, 0))) (tr_n 17 (tr_l 17 (.if_icmp .ne 5, 3, 22, 0)) (tr_l 20 (.iconst 0, 1, 0, 0)))) (tr_n 22 (tr_n 21 (tr_l 21 (.ireturn, 1, 2, 0)) (tr_l 22 (.iinc 1 1, 3, 0, 0))) (tr_n 25 (tr_l 25 (.goto (-23), 3, 2, 0)) (tr_n 28 (tr_l 28 (.iconst 1, 1, 0, 0)) (tr_l 29 (.ireturn, 1, 2, 0)))))))
def c_Text_allTablesMeanCases : Nat → Option eg_E := (tr_n 25 (tr_n 10 (tr_n 2 (tr_n 0 (tr_l 0 (.iconst 0, 1, 0, 0)) (tr_n 1 (tr_l 1 (.istore_n 1, 1, 0, 0)) (tr_l 2 (.iload_n 1, 1, 0, 0)))) (tr_n 4 (tr_n 3 (tr_l 3 (.aload_n 0, 1, 0, 0)) (tr_l 4 (.getfield 25, 3, 1, 3))) (tr_n 7 (tr_l 7 (.if_icmp .ge 44, 3, 51, 0)) (tr_l 10 (.aload_n 0, 1, 0, 0))))) (tr_n 15 (tr_n 11 (tr_l 11 (.getfield 11, 3, 0, 3)) (tr_n 14 (tr_l 14 (.iload_n 1, 1, 0, 0)) (tr_l 15 (.aaload, 1, 0, 0)))) (tr_n 19 (tr_n 16 (tr_l 16 (.getfield 49, 3, 0, 4)) (tr_l 19 (.getstatic 53, 3, 14, 0))) (tr_n 22 (tr_l 22 (.if_acmp .ne 23, 3, 45, 0)) (tr_l 25 (.aload_n 0, 1, 0, 0)))))) (tr_n 36 (tr_n 30 (tr_n 26 (tr_l 26 (.aload_n 0, 1, 0, 0)) (tr_n 27 (tr_l 27 (.getfield 11, 3, 0, 3)) (tr_l 30 (.iload_n 1, 1, 0, 0)))) (tr_n 32 (tr_n 31 (tr_l 31 (.aaload, 1, 0, 0)) (tr_l 32 (.getfield 58, 3, 6, 4))) (tr_n 35 (tr_l 35 (.iconst 0, 1, 0, 0)) (tr_l 36 (.iaload, 1, 0, 0))))) (tr_n 44 (tr_n 40 (tr_n 37 (tr_l 37 (.invokevirtual 60, 3, 50, 3)) (tr_l 40 (.ifCond .ne 5, 3, 45, 0))) (tr_n 43 (tr_l 43 (.iconst 0, 1, 0, 0)) (tr_l 44 (.ireturn, 1, 2, 0)))) (tr_n 48 (tr_n 45 (tr_l 45 (.iinc 1 1, 3, 0, 0)) (tr_l 48 (.goto (-46), 3, 2, 0))) (tr_n 51 (tr_l 51 (.iconst 1, 1, 0, 0)) (tr_l 52 (.ireturn, 1, 2, 0)))))))
def c_Text_standsBeforeCases : Nat → Option eg_E := (tr_n 17 (tr_n 9 (tr_n 4 (tr_n 0 (tr_l 0 (.aload_n 0, 1, 0, 0)) (tr_n 1 (tr_l 1 (.getfield 20, 3, 2, 3)) (tr_l 4 (.getfield 41, 3, 1, 5)))) (tr_n 7 (tr_l 7 (.iload_n 1, 1, 0, 0)) (tr_n 8 (tr_l 8 (.iaload, 1, 0, 0)) (tr_l 9 (.istore_n 2, 1, 0, 0))))) (tr_n 12 (tr_n 10 (tr_l 10 (.iload_n 2, 1, 0, 0)) (tr_n 11 (tr_l 11 (.iconst (-1), 1, 0, 0)) (tr_l 12 (.if_icmp .eq 30, 3, 42, 0)))) (tr_n 15 (tr_l 15 (.iload_n 2, 1, 0, 0)) (tr_n 16 (tr_l 16 (.aload_n 0, 1, 0, 0)) (tr_l 17 (.getfield 25, 3, 1, 3)))))) (tr_n 29 (tr_n 24 (tr_n 20 (tr_l 20 (.if_icmp .ge 22, 3, 42, 0)) (tr_n 23 (tr_l 23 (.aload_n 0, 1, 0, 0)) (tr_l 24 (.getfield 11, 3, 0, 3)))) (tr_n 27 (tr_l 27 (.iload_n 2, 1, 0, 0)) (tr_n 28 (tr_l 28 (.aaload, 1, 0, 0)) (tr_l 29 (.getfield 49, 3, 0, 4))))) (tr_n 38 (tr_n 32 (tr_l 32 (.getstatic 64, 3, 15, 0)) (tr_n 35 (tr_l 35 (.if_acmp .ne 7, 3, 42, 0)) (tr_l 38 (.iconst 1, 1, 0, 0)))) (tr_n 39 (tr_l 39 (.goto 4, 3, 43, 0)) (tr_n 42 (tr_l 42 (.iconst 0, 1, 0, 0)) (tr_l 43 (.ireturn, 1, 2, 0)))))))
def c_Text_writeTo : Nat → Option eg_E := (tr_n 39 (tr_n 17 (tr_n 7 (tr_n 2 (tr_n 0 (tr_l 0 (.aload_n 1, 1, 0, 0)) (tr_n 1 (tr_l 1 (.iconst 0, 1, 0, 0)) (tr_l 2 (.putfield 101, 3, 1, 6)))) (tr_n 5 (tr_l 5 (.iconst 0, 1, 0, 0)) (tr_n 6 (tr_l 6 (.istore_n 2, 1, 0, 0)) (tr_l 7 (.iconst 0, 1, 0, 0))))) (tr_n 10 (tr_n 8 (tr_l 8 (.istore_n 3, 1, 0, 0)) (tr_n 9 (tr_l 9 (.iload_n 3, 1, 0, 0)) (tr_l 10 (.aload_n 0, 1, 0, 0)))) (tr_n 11 (tr_l 11 (.getfield 25, 3, 1, 3)) (tr_n 14 (tr_l 14 (.if_icmp .ge 80, 3, 94, 0)) (tr_l 17 (.aload_n 0, 1, 0, 0)))))) (tr_n 26 (tr_n 22 (tr_n 18 (tr_l 18 (.getfield 11, 3, 0, 3)) (tr_n 21 (tr_l 21 (.iload_n 3, 1, 0, 0)) (tr_l 22 (.aaload, 1, 0, 0)))) (tr_n 23 (tr_l 23 (.astore 4, 2, 0, 0)) (tr_n 25 (tr_l 25 (.aload_n 1, 1, 0, 0)) (tr_l 26 (.getfield 101, 3, 1, 6))))) (tr_n 34 (tr_n 29 (tr_l 29 (.aload 4, 2, 0, 0)) (tr_n 31 (tr_l 31 (.getfield 86, 3, 7, 4)) (tr_l 34 (.if_icmp .ge 8, 3, 42, 0)))) (tr_n 37 (tr_l 37 (.aload_n 1, 1, 0, 0)) (tr_n 38 (tr_l 38 (.iconst 0, 1, 0, 0)) (tr_l 39 (.invokevirtual 104, 3, 52, 6))))))) (tr_n 65 (tr_n 54 (tr_n 47 (tr_n 42 (tr_l 42 (.aload 4, 2, 0, 0)) (tr_n 44 (tr_l 44 (.getfield 49, 3, 0, 4)) (tr_l 47 (.getstatic 64, 3, 15, 0)))) (tr_n 50 (tr_l 50 (.if_acmp .ne 14, 3, 64, 0)) (tr_n 53 (tr_l 53 (.aload_n 0, 1, 0, 0)) (tr_l 54 (.aload_n 1, 1, 0, 0))))) (tr_n 58 (tr_n 55 (tr_l 55 (.aload 4, 2, 0, 0)) (tr_n 57 (tr_l 57 (.iload_n 2, 1, 0, 0)) (tr_l 58 (.invokevirtual 108, 3, 53, 3)))) (tr_n 61 (tr_l 61 (.goto 10, 3, 71, 0)) (tr_n 64 (tr_l 64 (.aload_n 0, 1, 0, 0)) (tr_l 65 (.aload_n 1, 1, 0, 0)))))) (tr_n 79 (tr_n 71 (tr_n 66 (tr_l 66 (.aload 4, 2, 0, 0)) (tr_n 68 (tr_l 68 (.invokevirtual 112, 3, 54, 3)) (tr_l 71 (.aload 4, 2, 0, 0)))) (tr_n 73 (tr_l 73 (.getfield 49, 3, 0, 4)) (tr_n 76 (tr_l 76 (.getstatic 53, 3, 14, 0)) (tr_l 79 (.if_acmp .ne 9, 3, 88, 0))))) (tr_n 87 (tr_n 82 (tr_l 82 (.aload 4, 2, 0, 0)) (tr_n 84 (tr_l 84 (.getfield 86, 3, 7, 4)) (tr_l 87 (.istore_n 2, 1, 0, 0)))) (tr_n 88 (tr_l 88 (.iinc 3 1, 3, 0, 0)) (tr_n 91 (tr_l 91 (.goto (-82), 3, 9, 0)) (tr_l 94 (.return_, 1, 0, 0))))))))
def c_Code_append : Nat → Option eg_E := (tr_n 15 (tr_n 7 (tr_n 1 (tr_n 0 (tr_l 0 (.aload_n 0, 1, 0, 0)) (tr_l 1 (.getfield 18, 3, 1, 6))) (tr_n 4 (tr_l 4 (.sipush 200, 3, 0, 0)) (tr_l 7 (.if_icmp .ge 23, 3, 30, 0)))) (tr_n 11 (tr_n 10 (tr_l 10 (.aload_n 0, 1, 0, 0)) (tr_l 11 (.getfield 9, 3, 0, 6))) (tr_n 14 (tr_l 14 (.aload_n 0, 1, 0, 0)) (tr_l 15 (.getfield 18, 3, 1, 6))))) (tr_n 21 (tr_n 19 (tr_n 18 (tr_l 18 (.iload_n 1, 1, 0, 0)) (tr_l 19 (.iastore, 1, 0, 0))) (tr_n 20 (tr_l 20 (.aload_n 0, 1, 0, 0)) (tr_l 21 (.dup, 1, 0, 0)))) (tr_n 25 (tr_n 22 (tr_l 22 (.getfield 18, 3, 1, 6)) (tr_l 25 (.iconst 1, 1, 0, 0))) (tr_n 26 (tr_l 26 (.iadd, 1, 0, 0)) (tr_n 27 (tr_l 27 (.putfield 18, 3, 1, 6)) (tr_l 30 (.return_, 1, 0, 0)))))))
def c_Text_writeCases : Nat → Option eg_E := (tr_n 33 (tr_n 16 (tr_n 5 (tr_n 1 (tr_n 0 (tr_l 0 (.aload_n 1, 1, 0, 0)) (tr_l 1 (.aload_n 2, 1, 0, 0))) (tr_n 2 (tr_l 2 (.getfield 49, 3, 0, 4)) (tr_l 5 (.getfield 116, 3, 1, 11)))) (tr_n 11 (tr_n 8 (tr_l 8 (.invokevirtual 104, 3, 52, 6)) (tr_l 11 (.aload_n 1, 1, 0, 0))) (tr_n 12 (tr_l 12 (.aload_n 2, 1, 0, 0)) (tr_n 13 (tr_l 13 (.getfield 119, 3, 4, 4)) (tr_l 16 (.invokevirtual 104, 3, 52, 6)))))) (tr_n 24 (tr_n 20 (tr_n 19 (tr_l 19 (.aload_n 1, 1, 0, 0)) (tr_l 20 (.aload_n 2, 1, 0, 0))) (tr_n 21 (tr_l 21 (.getfield 122, 3, 3, 4)) (tr_l 24 (.ldc 125, 2, 65535, 0)))) (tr_n 27 (tr_n 26 (tr_l 26 (.iand, 1, 0, 0)) (tr_l 27 (.invokevirtual 104, 3, 52, 6))) (tr_n 30 (tr_l 30 (.iconst 0, 1, 0, 0)) (tr_n 31 (tr_l 31 (.istore 4, 2, 0, 0)) (tr_l 33 (.iload 4, 2, 0, 0))))))) (tr_n 50 (tr_n 42 (tr_n 36 (tr_n 35 (tr_l 35 (.aload_n 2, 1, 0, 0)) (tr_l 36 (.getfield 119, 3, 4, 4))) (tr_n 39 (tr_l 39 (.if_icmp .ge 29, 3, 68, 0)) (tr_l 42 (.aload_n 1, 1, 0, 0)))) (tr_n 44 (tr_n 43 (tr_l 43 (.aload_n 0, 1, 0, 0)) (tr_l 44 (.aload_n 2, 1, 0, 0))) (tr_n 45 (tr_l 45 (.getfield 58, 3, 6, 4)) (tr_n 48 (tr_l 48 (.iload 4, 2, 0, 0)) (tr_l 50 (.iaload, 1, 0, 0)))))) (tr_n 56 (tr_n 54 (tr_n 51 (tr_l 51 (.invokevirtual 98, 3, 25, 3)) (tr_l 54 (.iload_n 3, 1, 0, 0))) (tr_n 55 (tr_l 55 (.isub, 1, 0, 0)) (tr_l 56 (.ldc 125, 2, 65535, 0)))) (tr_n 59 (tr_n 58 (tr_l 58 (.iand, 1, 0, 0)) (tr_l 59 (.invokevirtual 104, 3, 52, 6))) (tr_n 62 (tr_l 62 (.iinc 4 1, 3, 0, 0)) (tr_n 65 (tr_l 65 (.goto (-32), 3, 33, 0)) (tr_l 68 (.return_, 1, 0, 0))))))))
def c_Text_writeBits : Nat → Option eg_E := (tr_n 54 (tr_n 26 (tr_n 12 (tr_n 4 (tr_n 0 (tr_l 0 (.aload_n 2, 1, 0, 0)) (tr_n 1 (tr_l 1 (.invokevirtual 126, 3, 22, 4)) (tr_l 4 (.astore_n 3, 1, 0, 0)))) (tr_n 6 (tr_n 5 (tr_l 5 (.aload_n 3, 1, 0, 0)) (tr_l 6 (.getfield 130, 3, 7, 11))) (tr_n 9 (tr_l 9 (.ifCond .eq 21, 3, 30, 0)) (tr_l 12 (.aload_n 0, 1, 0, 0))))) (tr_n 18 (tr_n 14 (tr_n 13 (tr_l 13 (.aload_n 2, 1, 0, 0)) (tr_l 14 (.getfield 58, 3, 6, 4))) (tr_n 17 (tr_l 17 (.iconst 0, 1, 0, 0)) (tr_l 18 (.iaload, 1, 0, 0)))) (tr_n 22 (tr_n 19 (tr_l 19 (.invokevirtual 98, 3, 25, 3)) (tr_l 22 (.aload_n 2, 1, 0, 0))) (tr_n 23 (tr_l 23 (.getfield 86, 3, 7, 4)) (tr_l 26 (.isub, 1, 0, 0)))))) (tr_n 41 (tr_n 34 (tr_n 30 (tr_n 27 (tr_l 27 (.goto 7, 3, 34, 0)) (tr_l 30 (.aload_n 2, 1, 0, 0))) (tr_n 31 (tr_l 31 (.getfield 122, 3, 3, 4)) (tr_l 34 (.istore 4, 2, 0, 0)))) (tr_n 37 (tr_n 36 (tr_l 36 (.aload_n 3, 1, 0, 0)) (tr_l 37 (.getfield 116, 3, 1, 11))) (tr_n 40 (tr_l 40 (.aload_n 2, 1, 0, 0)) (tr_l 41 (.getfield 133, 3, 2, 4))))) (tr_n 48 (tr_n 45 (tr_n 44 (tr_l 44 (.iconst 0, 1, 0, 0)) (tr_l 45 (.iaload, 1, 0, 0))) (tr_n 46 (tr_l 46 (.bipush 8, 2, 0, 0)) (tr_l 48 (.ishl, 1, 0, 0)))) (tr_n 50 (tr_n 49 (tr_l 49 (.ior, 1, 0, 0)) (tr_l 50 (.aload_n 2, 1, 0, 0))) (tr_n 51 (tr_l 51 (.getfield 133, 3, 2, 4)) (tr_l 54 (.iconst 1, 1, 0, 0))))))) (tr_n 78 (tr_n 66 (tr_n 60 (tr_n 56 (tr_n 55 (tr_l 55 (.iaload, 1, 0, 0)) (tr_l 56 (.aload_n 3, 1, 0, 0))) (tr_n 57 (tr_l 57 (.getfield 136, 3, 6, 11)) (tr_l 60 (.ishl, 1, 0, 0)))) (tr_n 62 (tr_n 61 (tr_l 61 (.ior, 1, 0, 0)) (tr_l 62 (.aload_n 2, 1, 0, 0))) (tr_n 63 (tr_l 63 (.getfield 133, 3, 2, 4)) (tr_l 66 (.iconst 2, 1, 0, 0))))) (tr_n 71 (tr_n 68 (tr_n 67 (tr_l 67 (.iaload, 1, 0, 0)) (tr_l 68 (.bipush 24, 2, 0, 0))) (tr_n 70 (tr_l 70 (.ishl, 1, 0, 0)) (tr_l 71 (.ior, 1, 0, 0)))) (tr_n 73 (tr_n 72 (tr_l 72 (.aload_n 3, 1, 0, 0)) (tr_l 73 (.iload 4, 2, 0, 0))) (tr_n 75 (tr_l 75 (.invokevirtual 139, 3, 55, 11)) (tr_l 78 (.ior, 1, 0, 0)))))) (tr_n 91 (tr_n 84 (tr_n 81 (tr_n 79 (tr_l 79 (.istore 5, 2, 0, 0)) (tr_l 81 (.aload_n 1, 1, 0, 0))) (tr_n 82 (tr_l 82 (.iload 5, 2, 0, 0)) (tr_l 84 (.ldc 125, 2, 65535, 0)))) (tr_n 87 (tr_n 86 (tr_l 86 (.iand, 1, 0, 0)) (tr_l 87 (.invokevirtual 104, 3, 52, 6))) (tr_n 90 (tr_l 90 (.aload_n 3, 1, 0, 0)) (tr_l 91 (.getfield 142, 3, 2, 11))))) (tr_n 99 (tr_n 95 (tr_n 94 (tr_l 94 (.iconst 2, 1, 0, 0)) (tr_l 95 (.if_icmp .ne 12, 3, 107, 0))) (tr_n 98 (tr_l 98 (.aload_n 1, 1, 0, 0)) (tr_l 99 (.iload 5, 2, 0, 0)))) (tr_n 103 (tr_n 101 (tr_l 101 (.bipush 16, 2, 0, 0)) (tr_l 103 (.iushr, 1, 0, 0))) (tr_n 104 (tr_l 104 (.invokevirtual 104, 3, 52, 6)) (tr_l 107 (.return_, 1, 0, 0))))))))
def c_Kind_fieldBits : Nat → Option eg_E := (tr_n 20 (tr_n 9 (tr_n 4 (tr_n 0 (tr_l 0 (.aload_n 0, 1, 0, 0)) (tr_n 1 (tr_l 1 (.getfield 87, 3, 5, 11)) (tr_l 4 (.ifCond .ne 5, 3, 9, 0)))) (tr_n 7 (tr_l 7 (.iconst 0, 1, 0, 0)) (tr_n 8 (tr_l 8 (.ireturn, 1, 1, 0)) (tr_l 9 (.bipush 16, 2, 0, 0))))) (tr_n 15 (tr_n 11 (tr_l 11 (.aload_n 0, 1, 0, 0)) (tr_n 12 (tr_l 12 (.getfield 77, 3, 2, 11)) (tr_l 15 (.imul, 1, 0, 0)))) (tr_n 16 (tr_l 16 (.aload_n 0, 1, 0, 0)) (tr_n 17 (tr_l 17 (.getfield 87, 3, 5, 11)) (tr_l 20 (.isub, 1, 0, 0)))))) (tr_n 26 (tr_n 23 (tr_n 21 (tr_l 21 (.istore_n 2, 1, 0, 0)) (tr_n 22 (tr_l 22 (.iload_n 1, 1, 0, 0)) (tr_l 23 (.iconst 1, 1, 0, 0)))) (tr_n 24 (tr_l 24 (.iload_n 2, 1, 0, 0)) (tr_n 25 (tr_l 25 (.ishl, 1, 0, 0)) (tr_l 26 (.iconst 1, 1, 0, 0))))) (tr_n 29 (tr_n 27 (tr_l 27 (.isub, 1, 0, 0)) (tr_n 28 (tr_l 28 (.iand, 1, 0, 0)) (tr_l 29 (.aload_n 0, 1, 0, 0)))) (tr_n 30 (tr_l 30 (.getfield 87, 3, 5, 11)) (tr_n 33 (tr_l 33 (.ishl, 1, 0, 0)) (tr_l 34 (.ireturn, 1, 1, 0)))))))
def c_Machine_startAnew : Nat → Option eg_E := (tr_n 18 (tr_n 8 (tr_n 2 (tr_n 0 (tr_l 0 (.iconst 0, 1, 0, 0)) (tr_n 1 (tr_l 1 (.istore_n 1, 1, 0, 0)) (tr_l 2 (.iload_n 1, 1, 0, 0)))) (tr_n 3 (tr_l 3 (.bipush 16, 2, 0, 0)) (tr_n 5 (tr_l 5 (.if_icmp .ge 16, 3, 21, 0)) (tr_l 8 (.aload_n 0, 1, 0, 0))))) (tr_n 13 (tr_n 9 (tr_l 9 (.getfield 9, 3, 0, 8)) (tr_n 12 (tr_l 12 (.iload_n 1, 1, 0, 0)) (tr_l 13 (.iconst 0, 1, 0, 0)))) (tr_n 14 (tr_l 14 (.iastore, 1, 0, 0)) (tr_n 15 (tr_l 15 (.iinc 1 1, 3, 0, 0)) (tr_l 18 (.goto (-16), 3, 2, 0)))))) (tr_n 28 (tr_n 23 (tr_n 21 (tr_l 21 (.aload_n 0, 1, 0, 0)) (tr_n 22 (tr_l 22 (.iconst 0, 1, 0, 0)) (tr_l 23 (.putfield 26, 3, 1, 8)))) (tr_n 26 (tr_l 26 (.aload_n 0, 1, 0, 0)) (tr_n 27 (tr_l 27 (.iconst 0, 1, 0, 0)) (tr_l 28 (.putfield 29, 3, 2, 8))))) (tr_n 33 (tr_n 31 (tr_l 31 (.aload_n 0, 1, 0, 0)) (tr_n 32 (tr_l 32 (.iconst 0, 1, 0, 0)) (tr_l 33 (.putfield 15, 3, 3, 8)))) (tr_n 37 (tr_n 36 (tr_l 36 (.aload_n 0, 1, 0, 0)) (tr_l 37 (.iconst 0, 1, 0, 0))) (tr_n 38 (tr_l 38 (.putfield 32, 3, 4, 8)) (tr_l 41 (.return_, 1, 0, 0)))))))
def c_U_item : Nat → Option eg_E := (tr_n 30 (tr_n 12 (tr_n 5 (tr_n 1 (tr_n 0 (tr_l 0 (.iload_n 2, 1, 0, 0)) (tr_l 1 (.ifCond .lt 8, 3, 9, 0))) (tr_n 4 (tr_l 4 (.iload_n 2, 1, 0, 0)) (tr_l 5 (.iconst 2, 1, 0, 0)))) (tr_n 9 (tr_n 6 (tr_l 6 (.if_icmp .le 5, 3, 11, 0)) (tr_l 9 (.iconst (-1), 1, 0, 0))) (tr_n 10 (tr_l 10 (.ireturn, 1, 1, 0)) (tr_n 11 (tr_l 11 (.iload_n 1, 1, 0, 0)) (tr_l 12 (.ifCond .lt 14, 3, 26, 0)))))) (tr_n 20 (tr_n 16 (tr_n 15 (tr_l 15 (.iload_n 1, 1, 0, 0)) (tr_l 16 (.aload_n 0, 1, 0, 0))) (tr_n 17 (tr_l 17 (.getfield 21, 3, 1, 1)) (tr_l 20 (.getfield 68, 3, 1, 3)))) (tr_n 26 (tr_n 23 (tr_l 23 (.if_icmp .lt 6, 3, 29, 0)) (tr_l 26 (.bipush (-2), 2, 0, 0))) (tr_n 28 (tr_l 28 (.ireturn, 1, 1, 0)) (tr_n 29 (tr_l 29 (.aload_n 0, 1, 0, 0)) (tr_l 30 (.getfield 21, 3, 1, 1))))))) (tr_n 47 (tr_n 38 (tr_n 36 (tr_n 33 (tr_l 33 (.getfield 92, 3, 0, 3)) (tr_l 36 (.iload_n 1, 1, 0, 0))) (tr_n 37 (tr_l 37 (.aaload, 1, 0, 0)) (tr_l 38 (.astore_n 3, 1, 0, 0)))) (tr_n 40 (tr_n 39 (tr_l 39 (.iload_n 2, 1, 0, 0)) (tr_l 40 (.ifCond .ne 11, 3, 51, 0))) (tr_n 43 (tr_l 43 (.aload_n 3, 1, 0, 0)) (tr_n 44 (tr_l 44 (.getfield 96, 3, 0, 4)) (tr_l 47 (.getfield 102, 3, 1, 11)))))) (tr_n 56 (tr_n 51 (tr_n 50 (tr_l 50 (.ireturn, 1, 1, 0)) (tr_l 51 (.iload_n 2, 1, 0, 0))) (tr_n 52 (tr_l 52 (.iconst 1, 1, 0, 0)) (tr_n 53 (tr_l 53 (.if_icmp .ne 10, 3, 63, 0)) (tr_l 56 (.aload_n 3, 1, 0, 0))))) (tr_n 60 (tr_n 57 (tr_l 57 (.getfield 107, 3, 7, 4)) (tr_l 60 (.goto 7, 3, 67, 0))) (tr_n 63 (tr_l 63 (.aload_n 3, 1, 0, 0)) (tr_n 64 (tr_l 64 (.invokevirtual 110, 3, 21, 4)) (tr_l 67 (.ireturn, 1, 1, 0))))))))
def c_U_unit : Nat → Option eg_E := (tr_n 11 (tr_n 4 (tr_n 0 (tr_l 0 (.aload_n 0, 1, 0, 0)) (tr_n 1 (tr_l 1 (.getfield 28, 3, 2, 1)) (tr_l 4 (.iload_n 1, 1, 0, 0)))) (tr_n 5 (tr_l 5 (.invokevirtual 112, 3, 59, 6)) (tr_n 8 (tr_l 8 (.ifCond .eq 15, 3, 23, 0)) (tr_l 11 (.aload_n 0, 1, 0, 0))))) (tr_n 18 (tr_n 12 (tr_l 12 (.getfield 28, 3, 2, 1)) (tr_n 15 (tr_l 15 (.getfield 116, 3, 0, 6)) (tr_l 18 (.iload_n 1, 1, 0, 0)))) (tr_n 20 (tr_n 19 (tr_l 19 (.iaload, 1, 0, 0)) (tr_l 20 (.goto 5, 3, 25, 0))) (tr_n 23 (tr_l 23 (.bipush (-2), 2, 0, 0)) (tr_l 25 (.ireturn, 1, 1, 0))))))
def c_Code_has : Nat → Option eg_E := (tr_n 6 (tr_n 1 (tr_n 0 (tr_l 0 (.iload_n 1, 1, 0, 0)) (tr_l 1 (.ifCond .lt 15, 3, 16, 0))) (tr_n 4 (tr_l 4 (.iload_n 1, 1, 0, 0)) (tr_n 5 (tr_l 5 (.aload_n 0, 1, 0, 0)) (tr_l 6 (.getfield 18, 3, 1, 6))))) (tr_n 12 (tr_n 9 (tr_l 9 (.if_icmp .ge 7, 3, 16, 0)) (tr_l 12 (.iconst 1, 1, 0, 0))) (tr_n 13 (tr_l 13 (.goto 4, 3, 17, 0)) (tr_n 16 (tr_l 16 (.iconst 0, 1, 0, 0)) (tr_l 17 (.ireturn, 1, 2, 0))))))
def c_U_set : Nat → Option eg_E := (tr_n 36 (tr_n 15 (tr_n 5 (tr_n 1 (tr_n 0 (tr_l 0 (.iload_n 2, 1, 0, 0)) (tr_l 1 (.ifCond .lt 24, 3, 25, 0))) (tr_n 4 (tr_l 4 (.iload_n 2, 1, 0, 0)) (tr_l 5 (.ldc 120, 2, 65535, 0)))) (tr_n 10 (tr_n 7 (tr_l 7 (.if_icmp .gt 18, 3, 25, 0)) (tr_l 10 (.iload_n 1, 1, 0, 0))) (tr_n 11 (tr_l 11 (.ifCond .lt 14, 3, 25, 0)) (tr_n 14 (tr_l 14 (.iload_n 1, 1, 0, 0)) (tr_l 15 (.aload_n 0, 1, 0, 0)))))) (tr_n 26 (tr_n 19 (tr_n 16 (tr_l 16 (.getfield 28, 3, 2, 1)) (tr_l 19 (.getfield 91, 3, 1, 6))) (tr_n 22 (tr_l 22 (.if_icmp .le 5, 3, 27, 0)) (tr_n 25 (tr_l 25 (.iconst (-1), 1, 0, 0)) (tr_l 26 (.ireturn, 1, 1, 0))))) (tr_n 28 (tr_n 27 (tr_l 27 (.iload_n 1, 1, 0, 0)) (tr_l 28 (.sipush 200, 3, 0, 0))) (tr_n 31 (tr_l 31 (.if_icmp .lt 6, 3, 37, 0)) (tr_n 34 (tr_l 34 (.bipush (-3), 2, 0, 0)) (tr_l 36 (.ireturn, 1, 1, 0))))))) (tr_n 56 (tr_n 45 (tr_n 38 (tr_n 37 (tr_l 37 (.iload_n 1, 1, 0, 0)) (tr_l 38 (.aload_n 0, 1, 0, 0))) (tr_n 39 (tr_l 39 (.getfield 28, 3, 2, 1)) (tr_n 42 (tr_l 42 (.getfield 91, 3, 1, 6)) (tr_l 45 (.if_icmp .ne 14, 3, 59, 0))))) (tr_n 49 (tr_n 48 (tr_l 48 (.aload_n 0, 1, 0, 0)) (tr_l 49 (.getfield 28, 3, 2, 1))) (tr_n 52 (tr_l 52 (.iload_n 2, 1, 0, 0)) (tr_n 53 (tr_l 53 (.invokevirtual 121, 3, 52, 6)) (tr_l 56 (.goto 13, 3, 69, 0)))))) (tr_n 67 (tr_n 60 (tr_n 59 (tr_l 59 (.aload_n 0, 1, 0, 0)) (tr_l 60 (.getfield 28, 3, 2, 1))) (tr_n 63 (tr_l 63 (.getfield 116, 3, 0, 6)) (tr_n 66 (tr_l 66 (.iload_n 1, 1, 0, 0)) (tr_l 67 (.iload_n 2, 1, 0, 0))))) (tr_n 69 (tr_n 68 (tr_l 68 (.iastore, 1, 0, 0)) (tr_l 69 (.aload_n 0, 1, 0, 0))) (tr_n 70 (tr_l 70 (.getfield 28, 3, 2, 1)) (tr_n 73 (tr_l 73 (.getfield 91, 3, 1, 6)) (tr_l 76 (.ireturn, 1, 1, 0))))))))
def c_U_read : Nat → Option eg_E := (tr_n 16 (tr_n 7 (tr_n 1 (tr_n 0 (tr_l 0 (.iload_n 2, 1, 0, 0)) (tr_l 1 (.ifCond .lt 9, 3, 10, 0))) (tr_n 4 (tr_l 4 (.iload_n 2, 1, 0, 0)) (tr_n 5 (tr_l 5 (.bipush 11, 2, 0, 0)) (tr_l 7 (.if_icmp .le 5, 3, 12, 0))))) (tr_n 11 (tr_n 10 (tr_l 10 (.iconst (-1), 1, 0, 0)) (tr_l 11 (.ireturn, 1, 1, 0))) (tr_n 12 (tr_l 12 (.aload_n 0, 1, 0, 0)) (tr_n 13 (tr_l 13 (.getfield 35, 3, 3, 1)) (tr_l 16 (.aload_n 0, 1, 0, 0)))))) (tr_n 27 (tr_n 20 (tr_n 17 (tr_l 17 (.getfield 28, 3, 2, 1)) (tr_l 20 (.iload_n 1, 1, 0, 0))) (tr_n 21 (tr_l 21 (.invokevirtual 124, 3, 62, 7)) (tr_n 24 (tr_l 24 (.ifCond .ne 6, 3, 30, 0)) (tr_l 27 (.bipush (-7), 2, 0, 0))))) (tr_n 31 (tr_n 29 (tr_l 29 (.ireturn, 1, 1, 0)) (tr_n 30 (tr_l 30 (.aload_n 0, 1, 0, 0)) (tr_l 31 (.getfield 35, 3, 3, 1)))) (tr_n 34 (tr_l 34 (.iload_n 2, 1, 0, 0)) (tr_n 35 (tr_l 35 (.invokevirtual 128, 3, 67, 7)) (tr_l 38 (.ireturn, 1, 1, 0)))))))
def c_Reading_canRead : Nat → Option eg_E := (tr_n 26 (tr_n 11 (tr_n 5 (tr_n 1 (tr_n 0 (tr_l 0 (.aload_n 1, 1, 0, 0)) (tr_l 1 (.iload_n 2, 1, 0, 0))) (tr_n 2 (tr_l 2 (.invokevirtual 27, 3, 59, 6)) (tr_l 5 (.ifCond .ne 5, 3, 10, 0)))) (tr_n 9 (tr_n 8 (tr_l 8 (.iconst 0, 1, 0, 0)) (tr_l 9 (.ireturn, 1, 2, 0))) (tr_n 10 (tr_l 10 (.aload_n 0, 1, 0, 0)) (tr_l 11 (.aload_n 1, 1, 0, 0))))) (tr_n 17 (tr_n 15 (tr_n 12 (tr_l 12 (.getfield 33, 3, 0, 6)) (tr_l 15 (.iload_n 2, 1, 0, 0))) (tr_n 16 (tr_l 16 (.iaload, 1, 0, 0)) (tr_l 17 (.invokevirtual 36, 3, 63, 7)))) (tr_n 21 (tr_n 20 (tr_l 20 (.astore_n 3, 1, 0, 0)) (tr_l 21 (.aload_n 3, 1, 0, 0))) (tr_n 22 (tr_l 22 (.ifnonnull 5, 3, 27, 0)) (tr_n 25 (tr_l 25 (.iconst 0, 1, 0, 0)) (tr_l 26 (.ireturn, 1, 2, 0))))))) (tr_n 41 (tr_n 32 (tr_n 28 (tr_n 27 (tr_l 27 (.aload_n 0, 1, 0, 0)) (tr_l 28 (.aload_n 3, 1, 0, 0))) (tr_n 29 (tr_l 29 (.putfield 15, 3, 0, 7)) (tr_l 32 (.aload_n 0, 1, 0, 0)))) (tr_n 34 (tr_n 33 (tr_l 33 (.iload_n 2, 1, 0, 0)) (tr_l 34 (.putfield 40, 3, 1, 7))) (tr_n 37 (tr_l 37 (.aload_n 0, 1, 0, 0)) (tr_n 38 (tr_l 38 (.getfield 15, 3, 0, 7)) (tr_l 41 (.getstatic 44, 3, 15, 0)))))) (tr_n 49 (tr_n 47 (tr_n 44 (tr_l 44 (.if_acmp .ne 11, 3, 55, 0)) (tr_l 47 (.aload_n 0, 1, 0, 0))) (tr_n 48 (tr_l 48 (.aload_n 1, 1, 0, 0)) (tr_l 49 (.invokevirtual 47, 3, 64, 7)))) (tr_n 55 (tr_n 52 (tr_l 52 (.goto 8, 3, 60, 0)) (tr_l 55 (.aload_n 0, 1, 0, 0))) (tr_n 56 (tr_l 56 (.aload_n 1, 1, 0, 0)) (tr_n 57 (tr_l 57 (.invokevirtual 51, 3, 65, 7)) (tr_l 60 (.ireturn, 1, 2, 0))))))))
def c_Reading_kindOf : Nat → Option eg_E := (tr_n 24 (tr_n 12 (tr_n 4 (tr_n 0 (tr_l 0 (.iload_n 1, 1, 0, 0)) (tr_n 1 (tr_l 1 (.sipush 256, 3, 0, 0)) (tr_l 4 (.irem, 1, 0, 0)))) (tr_n 8 (tr_n 5 (tr_l 5 (.ifCond .ne 7, 3, 12, 0)) (tr_l 8 (.iload_n 1, 1, 0, 0))) (tr_n 9 (tr_l 9 (.goto 8, 3, 17, 0)) (tr_l 12 (.iload_n 1, 1, 0, 0))))) (tr_n 18 (tr_n 16 (tr_n 13 (tr_l 13 (.sipush 256, 3, 0, 0)) (tr_l 16 (.irem, 1, 0, 0))) (tr_n 17 (tr_l 17 (.istore_n 2, 1, 0, 0)) (tr_l 18 (.iconst 0, 1, 0, 0)))) (tr_n 20 (tr_n 19 (tr_l 19 (.istore_n 3, 1, 0, 0)) (tr_l 20 (.iload_n 3, 1, 0, 0))) (tr_n 21 (tr_l 21 (.getstatic 54, 3, 16, 0)) (tr_l 24 (.arraylength, 1, 0, 0)))))) (tr_n 37 (tr_n 31 (tr_n 25 (tr_l 25 (.if_icmp .ge 27, 3, 52, 0)) (tr_n 28 (tr_l 28 (.getstatic 54, 3, 16, 0)) (tr_l 31 (.iload_n 3, 1, 0, 0)))) (tr_n 33 (tr_n 32 (tr_l 32 (.aaload, 1, 0, 0)) (tr_l 33 (.getfield 58, 3, 1, 11))) (tr_n 36 (tr_l 36 (.iload_n 2, 1, 0, 0)) (tr_l 37 (.if_icmp .ne 9, 3, 46, 0))))) (tr_n 45 (tr_n 43 (tr_n 40 (tr_l 40 (.getstatic 54, 3, 16, 0)) (tr_l 43 (.iload_n 3, 1, 0, 0))) (tr_n 44 (tr_l 44 (.aaload, 1, 0, 0)) (tr_l 45 (.areturn, 1, 0, 0)))) (tr_n 49 (tr_n 46 (tr_l 46 (.iinc 3 1, 3, 0, 0)) (tr_l 49 (.goto (-29), 3, 20, 0))) (tr_n 52 (tr_l 52 (.aconst_null, 1, 0, 0)) (tr_l 53 (.areturn, 1, 0, 0)))))))
def c_Reading_canReadCases : Nat → Option eg_E := (tr_n 71 (tr_n 31 (tr_n 15 (tr_n 6 (tr_n 1 (tr_n 0 (tr_l 0 (.aload_n 1, 1, 0, 0)) (tr_l 1 (.aload_n 0, 1, 0, 0))) (tr_n 2 (tr_l 2 (.getfield 40, 3, 1, 7)) (tr_n 5 (tr_l 5 (.iconst 2, 1, 0, 0)) (tr_l 6 (.iadd, 1, 0, 0))))) (tr_n 10 (tr_n 7 (tr_l 7 (.invokevirtual 27, 3, 59, 6)) (tr_l 10 (.ifCond .ne 5, 3, 15, 0))) (tr_n 13 (tr_l 13 (.iconst 0, 1, 0, 0)) (tr_n 14 (tr_l 14 (.ireturn, 1, 2, 0)) (tr_l 15 (.aload_n 0, 1, 0, 0)))))) (tr_n 24 (tr_n 17 (tr_n 16 (tr_l 16 (.aload_n 1, 1, 0, 0)) (tr_l 17 (.getfield 33, 3, 0, 6))) (tr_n 20 (tr_l 20 (.aload_n 0, 1, 0, 0)) (tr_n 21 (tr_l 21 (.getfield 40, 3, 1, 7)) (tr_l 24 (.iconst 1, 1, 0, 0))))) (tr_n 26 (tr_n 25 (tr_l 25 (.iadd, 1, 0, 0)) (tr_l 26 (.iaload, 1, 0, 0))) (tr_n 27 (tr_l 27 (.putfield 61, 3, 5, 7)) (tr_n 30 (tr_l 30 (.aload_n 0, 1, 0, 0)) (tr_l 31 (.aload_n 0, 1, 0, 0))))))) (tr_n 51 (tr_n 42 (tr_n 35 (tr_n 32 (tr_l 32 (.getfield 15, 3, 0, 7)) (tr_l 35 (.getfield 64, 3, 2, 11))) (tr_n 38 (tr_l 38 (.aload_n 0, 1, 0, 0)) (tr_n 39 (tr_l 39 (.getfield 61, 3, 5, 7)) (tr_l 42 (.iadd, 1, 0, 0))))) (tr_n 46 (tr_n 43 (tr_l 43 (.putfield 66, 3, 2, 7)) (tr_l 46 (.aload_n 0, 1, 0, 0))) (tr_n 47 (tr_l 47 (.getfield 61, 3, 5, 7)) (tr_n 50 (tr_l 50 (.iconst 1, 1, 0, 0)) (tr_l 51 (.if_icmp .lt 29, 3, 80, 0)))))) (tr_n 62 (tr_n 55 (tr_n 54 (tr_l 54 (.aload_n 0, 1, 0, 0)) (tr_l 55 (.getfield 61, 3, 5, 7))) (tr_n 58 (tr_l 58 (.iconst 4, 1, 0, 0)) (tr_n 59 (tr_l 59 (.if_icmp .gt 21, 3, 80, 0)) (tr_l 62 (.aload_n 1, 1, 0, 0))))) (tr_n 64 (tr_n 63 (tr_l 63 (.aload_n 0, 1, 0, 0)) (tr_l 64 (.getfield 40, 3, 1, 7))) (tr_n 67 (tr_l 67 (.aload_n 0, 1, 0, 0)) (tr_n 68 (tr_l 68 (.getfield 66, 3, 2, 7)) (tr_l 71 (.iadd, 1, 0, 0)))))))) (tr_n 101 (tr_n 87 (tr_n 80 (tr_n 73 (tr_n 72 (tr_l 72 (.iconst 1, 1, 0, 0)) (tr_l 73 (.isub, 1, 0, 0))) (tr_n 74 (tr_l 74 (.invokevirtual 27, 3, 59, 6)) (tr_n 77 (tr_l 77 (.ifCond .ne 5, 3, 82, 0)) (tr_l 80 (.iconst 0, 1, 0, 0))))) (tr_n 82 (tr_n 81 (tr_l 81 (.ireturn, 1, 2, 0)) (tr_l 82 (.aload_n 0, 1, 0, 0))) (tr_n 83 (tr_l 83 (.aload_n 1, 1, 0, 0)) (tr_n 84 (tr_l 84 (.getfield 33, 3, 0, 6)) (tr_l 87 (.aload_n 0, 1, 0, 0)))))) (tr_n 94 (tr_n 91 (tr_n 88 (tr_l 88 (.getfield 40, 3, 1, 7)) (tr_l 91 (.iconst 2, 1, 0, 0))) (tr_n 92 (tr_l 92 (.iadd, 1, 0, 0)) (tr_n 93 (tr_l 93 (.iaload, 1, 0, 0)) (tr_l 94 (.i2s, 1, 0, 0))))) (tr_n 98 (tr_n 95 (tr_l 95 (.putfield 69, 3, 4, 7)) (tr_l 98 (.iconst 0, 1, 0, 0))) (tr_n 99 (tr_l 99 (.istore_n 2, 1, 0, 0)) (tr_n 100 (tr_l 100 (.iload_n 2, 1, 0, 0)) (tr_l 101 (.aload_n 0, 1, 0, 0))))))) (tr_n 121 (tr_n 112 (tr_n 105 (tr_n 102 (tr_l 102 (.getfield 61, 3, 5, 7)) (tr_l 105 (.if_icmp .ge 29, 3, 134, 0))) (tr_n 108 (tr_l 108 (.aload_n 0, 1, 0, 0)) (tr_n 109 (tr_l 109 (.getfield 24, 3, 6, 7)) (tr_l 112 (.iload_n 2, 1, 0, 0))))) (tr_n 114 (tr_n 113 (tr_l 113 (.aload_n 1, 1, 0, 0)) (tr_l 114 (.getfield 33, 3, 0, 6))) (tr_n 117 (tr_l 117 (.aload_n 0, 1, 0, 0)) (tr_n 118 (tr_l 118 (.getfield 40, 3, 1, 7)) (tr_l 121 (.iconst 3, 1, 0, 0)))))) (tr_n 126 (tr_n 123 (tr_n 122 (tr_l 122 (.iadd, 1, 0, 0)) (tr_l 123 (.iload_n 2, 1, 0, 0))) (tr_n 124 (tr_l 124 (.iadd, 1, 0, 0)) (tr_n 125 (tr_l 125 (.iaload, 1, 0, 0)) (tr_l 126 (.i2s, 1, 0, 0))))) (tr_n 128 (tr_n 127 (tr_l 127 (.iastore, 1, 0, 0)) (tr_l 128 (.iinc 2 1, 3, 0, 0))) (tr_n 131 (tr_l 131 (.goto (-31), 3, 100, 0)) (tr_n 134 (tr_l 134 (.iconst 1, 1, 0, 0)) (tr_l 135 (.ireturn, 1, 2, 0)))))))))
def c_Reading_canReadBits : Nat → Option eg_E := (tr_n 64 (tr_n 32 (tr_n 16 (tr_n 5 (tr_n 1 (tr_n 0 (tr_l 0 (.aload_n 0, 1, 0, 0)) (tr_l 1 (.aload_n 0, 1, 0, 0))) (tr_n 2 (tr_l 2 (.getfield 15, 3, 0, 7)) (tr_l 5 (.getfield 64, 3, 2, 11)))) (tr_n 11 (tr_n 8 (tr_l 8 (.putfield 66, 3, 2, 7)) (tr_l 11 (.aload_n 1, 1, 0, 0))) (tr_n 12 (tr_l 12 (.aload_n 0, 1, 0, 0)) (tr_n 13 (tr_l 13 (.getfield 40, 3, 1, 7)) (tr_l 16 (.aload_n 0, 1, 0, 0)))))) (tr_n 23 (tr_n 20 (tr_n 17 (tr_l 17 (.getfield 66, 3, 2, 7)) (tr_l 20 (.iadd, 1, 0, 0))) (tr_n 21 (tr_l 21 (.iconst 1, 1, 0, 0)) (tr_n 22 (tr_l 22 (.isub, 1, 0, 0)) (tr_l 23 (.invokevirtual 27, 3, 59, 6))))) (tr_n 29 (tr_n 26 (tr_l 26 (.ifCond .ne 5, 3, 31, 0)) (tr_l 29 (.iconst 0, 1, 0, 0))) (tr_n 30 (tr_l 30 (.ireturn, 1, 2, 0)) (tr_n 31 (tr_l 31 (.aload_n 1, 1, 0, 0)) (tr_l 32 (.getfield 33, 3, 0, 6))))))) (tr_n 49 (tr_n 40 (tr_n 36 (tr_n 35 (tr_l 35 (.aload_n 0, 1, 0, 0)) (tr_l 36 (.getfield 40, 3, 1, 7))) (tr_n 39 (tr_l 39 (.iaload, 1, 0, 0)) (tr_l 40 (.istore_n 2, 1, 0, 0)))) (tr_n 42 (tr_n 41 (tr_l 41 (.aload_n 0, 1, 0, 0)) (tr_l 42 (.getfield 66, 3, 2, 7))) (tr_n 45 (tr_l 45 (.iconst 2, 1, 0, 0)) (tr_n 46 (tr_l 46 (.if_icmp .ne 20, 3, 66, 0)) (tr_l 49 (.iload_n 2, 1, 0, 0)))))) (tr_n 58 (tr_n 51 (tr_n 50 (tr_l 50 (.aload_n 1, 1, 0, 0)) (tr_l 51 (.getfield 33, 3, 0, 6))) (tr_n 54 (tr_l 54 (.aload_n 0, 1, 0, 0)) (tr_n 55 (tr_l 55 (.getfield 40, 3, 1, 7)) (tr_l 58 (.iconst 1, 1, 0, 0))))) (tr_n 60 (tr_n 59 (tr_l 59 (.iadd, 1, 0, 0)) (tr_l 60 (.iaload, 1, 0, 0))) (tr_n 61 (tr_l 61 (.bipush 16, 2, 0, 0)) (tr_n 63 (tr_l 63 (.ishl, 1, 0, 0)) (tr_l 64 (.ior, 1, 0, 0)))))))) (tr_n 93 (tr_n 77 (tr_n 70 (tr_n 66 (tr_n 65 (tr_l 65 (.istore_n 2, 1, 0, 0)) (tr_l 66 (.aload_n 0, 1, 0, 0))) (tr_n 67 (tr_l 67 (.getfield 20, 3, 3, 7)) (tr_l 70 (.iconst 0, 1, 0, 0)))) (tr_n 72 (tr_n 71 (tr_l 71 (.iload_n 2, 1, 0, 0)) (tr_l 72 (.bipush 8, 2, 0, 0))) (tr_n 74 (tr_l 74 (.ishr, 1, 0, 0)) (tr_n 75 (tr_l 75 (.bipush 15, 2, 0, 0)) (tr_l 77 (.iand, 1, 0, 0)))))) (tr_n 84 (tr_n 79 (tr_n 78 (tr_l 78 (.iastore, 1, 0, 0)) (tr_l 79 (.aload_n 0, 1, 0, 0))) (tr_n 80 (tr_l 80 (.getfield 20, 3, 3, 7)) (tr_n 83 (tr_l 83 (.iconst 1, 1, 0, 0)) (tr_l 84 (.iload_n 2, 1, 0, 0))))) (tr_n 86 (tr_n 85 (tr_l 85 (.aload_n 0, 1, 0, 0)) (tr_l 86 (.getfield 15, 3, 0, 7))) (tr_n 89 (tr_l 89 (.getfield 72, 3, 6, 11)) (tr_n 92 (tr_l 92 (.ishr, 1, 0, 0)) (tr_l 93 (.bipush 15, 2, 0, 0))))))) (tr_n 106 (tr_n 98 (tr_n 96 (tr_n 95 (tr_l 95 (.iand, 1, 0, 0)) (tr_l 96 (.iastore, 1, 0, 0))) (tr_n 97 (tr_l 97 (.aload_n 0, 1, 0, 0)) (tr_l 98 (.getfield 20, 3, 3, 7)))) (tr_n 102 (tr_n 101 (tr_l 101 (.iconst 2, 1, 0, 0)) (tr_l 102 (.iload_n 2, 1, 0, 0))) (tr_n 103 (tr_l 103 (.bipush 24, 2, 0, 0)) (tr_n 105 (tr_l 105 (.ishr, 1, 0, 0)) (tr_l 106 (.bipush 15, 2, 0, 0)))))) (tr_n 112 (tr_n 109 (tr_n 108 (tr_l 108 (.iand, 1, 0, 0)) (tr_l 109 (.iastore, 1, 0, 0))) (tr_n 110 (tr_l 110 (.aload_n 0, 1, 0, 0)) (tr_n 111 (tr_l 111 (.aload_n 0, 1, 0, 0)) (tr_l 112 (.getfield 15, 3, 0, 7))))) (tr_n 116 (tr_n 115 (tr_l 115 (.iload_n 2, 1, 0, 0)) (tr_l 116 (.invokevirtual 75, 3, 66, 11))) (tr_n 119 (tr_l 119 (.putfield 69, 3, 4, 7)) (tr_n 122 (tr_l 122 (.iconst 1, 1, 0, 0)) (tr_l 123 (.ireturn, 1, 2, 0)))))))))
def c_Kind_fieldOf : Nat → Option eg_E := (tr_n 17 (tr_n 8 (tr_n 1 (tr_n 0 (tr_l 0 (.aload_n 0, 1, 0, 0)) (tr_l 1 (.getfield 87, 3, 5, 11))) (tr_n 4 (tr_l 4 (.ifCond .ne 5, 3, 9, 0)) (tr_n 7 (tr_l 7 (.iconst 0, 1, 0, 0)) (tr_l 8 (.ireturn, 1, 1, 0))))) (tr_n 11 (tr_n 9 (tr_l 9 (.bipush 32, 2, 0, 0)) (tr_l 11 (.bipush 16, 2, 0, 0))) (tr_n 13 (tr_l 13 (.aload_n 0, 1, 0, 0)) (tr_n 14 (tr_l 14 (.getfield 77, 3, 2, 11)) (tr_l 17 (.imul, 1, 0, 0)))))) (tr_n 22 (tr_n 19 (tr_n 18 (tr_l 18 (.isub, 1, 0, 0)) (tr_l 19 (.istore_n 2, 1, 0, 0))) (tr_n 20 (tr_l 20 (.iload_n 1, 1, 0, 0)) (tr_n 21 (tr_l 21 (.iload_n 2, 1, 0, 0)) (tr_l 22 (.ishl, 1, 0, 0))))) (tr_n 25 (tr_n 23 (tr_l 23 (.iload_n 2, 1, 0, 0)) (tr_n 24 (tr_l 24 (.aload_n 0, 1, 0, 0)) (tr_l 25 (.getfield 87, 3, 5, 11)))) (tr_n 28 (tr_l 28 (.iadd, 1, 0, 0)) (tr_n 29 (tr_l 29 (.ishr, 1, 0, 0)) (tr_l 30 (.ireturn, 1, 1, 0)))))))
def c_Reading_part : Nat → Option eg_E := (tr_n 96 (tr_n 69 (tr_n 56 (tr_n 48 (tr_n 0 (tr_l 0 (.iload_n 1, 1, 0, 0)) (tr_n 1 (tr_l 1 (.tableswitch 153 0 7 #[47, 55, 60, 60, 60, 91, 113, 133], 47, 0, 0)) (tr_l 48 (.aload_n 0, 1, 0, 0)))) (tr_n 52 (tr_n 49 (tr_l 49 (.getfield 15, 3, 0, 7)) (tr_l 52 (.getfield 58, 3, 1, 11))) (tr_n 55 (tr_l 55 (.ireturn, 1, 1, 0)) (tr_l 56 (.aload_n 0, 1, 0, 0))))) (tr_n 62 (tr_n 60 (tr_n 57 (tr_l 57 (.getfield 66, 3, 2, 7)) (tr_l 60 (.ireturn, 1, 1, 0))) (tr_n 61 (tr_l 61 (.aload_n 0, 1, 0, 0)) (tr_l 62 (.getfield 15, 3, 0, 7)))) (tr_n 67 (tr_n 65 (tr_l 65 (.bipush 65, 2, 0, 0)) (tr_l 67 (.iload_n 1, 1, 0, 0))) (tr_n 68 (tr_l 68 (.iadd, 1, 0, 0)) (tr_l 69 (.iconst 2, 1, 0, 0)))))) (tr_n 83 (tr_n 75 (tr_n 71 (tr_n 70 (tr_l 70 (.isub, 1, 0, 0)) (tr_l 71 (.i2c, 1, 0, 0))) (tr_n 72 (tr_l 72 (.invokevirtual 79, 3, 68, 11)) (tr_l 75 (.ifCond .eq 14, 3, 89, 0)))) (tr_n 79 (tr_n 78 (tr_l 78 (.aload_n 0, 1, 0, 0)) (tr_l 79 (.getfield 20, 3, 3, 7))) (tr_n 82 (tr_l 82 (.iload_n 1, 1, 0, 0)) (tr_l 83 (.iconst 2, 1, 0, 0))))) (tr_n 89 (tr_n 85 (tr_n 84 (tr_l 84 (.isub, 1, 0, 0)) (tr_l 85 (.iaload, 1, 0, 0))) (tr_n 86 (tr_l 86 (.goto 5, 3, 91, 0)) (tr_l 89 (.bipush (-2), 2, 0, 0)))) (tr_n 92 (tr_n 91 (tr_l 91 (.ireturn, 1, 1, 0)) (tr_l 92 (.aload_n 0, 1, 0, 0))) (tr_n 93 (tr_l 93 (.getfield 15, 3, 0, 7)) (tr_l 96 (.bipush 110, 2, 0, 0))))))) (tr_n 131 (tr_n 113 (tr_n 104 (tr_n 98 (tr_l 98 (.invokevirtual 79, 3, 68, 11)) (tr_n 101 (tr_l 101 (.ifCond .eq 10, 3, 111, 0)) (tr_l 104 (.aload_n 0, 1, 0, 0)))) (tr_n 108 (tr_n 105 (tr_l 105 (.getfield 69, 3, 4, 7)) (tr_l 108 (.goto 5, 3, 113, 0))) (tr_n 111 (tr_l 111 (.bipush (-2), 2, 0, 0)) (tr_l 113 (.ireturn, 1, 1, 0))))) (tr_n 121 (tr_n 115 (tr_n 114 (tr_l 114 (.aload_n 0, 1, 0, 0)) (tr_l 115 (.getfield 15, 3, 0, 7))) (tr_n 118 (tr_l 118 (.getfield 82, 3, 7, 11)) (tr_l 121 (.ifCond .eq 10, 3, 131, 0)))) (tr_n 125 (tr_n 124 (tr_l 124 (.aload_n 0, 1, 0, 0)) (tr_l 125 (.invokevirtual 86, 3, 69, 7))) (tr_n 128 (tr_l 128 (.goto 5, 3, 133, 0)) (tr_l 131 (.bipush (-2), 2, 0, 0)))))) (tr_n 148 (tr_n 138 (tr_n 134 (tr_n 133 (tr_l 133 (.ireturn, 1, 1, 0)) (tr_l 134 (.aload_n 0, 1, 0, 0))) (tr_n 135 (tr_l 135 (.getfield 15, 3, 0, 7)) (tr_l 138 (.getstatic 44, 3, 15, 0)))) (tr_n 144 (tr_n 141 (tr_l 141 (.if_acmp .ne 10, 3, 151, 0)) (tr_l 144 (.aload_n 0, 1, 0, 0))) (tr_n 145 (tr_l 145 (.getfield 61, 3, 5, 7)) (tr_l 148 (.goto 5, 3, 153, 0))))) (tr_n 155 (tr_n 153 (tr_n 151 (tr_l 151 (.bipush (-2), 2, 0, 0)) (tr_l 153 (.ireturn, 1, 1, 0))) (tr_n 154 (tr_l 154 (.aload_n 0, 1, 0, 0)) (tr_l 155 (.iload_n 1, 1, 0, 0)))) (tr_n 158 (tr_n 156 (tr_l 156 (.bipush 8, 2, 0, 0)) (tr_l 158 (.isub, 1, 0, 0))) (tr_n 159 (tr_l 159 (.invokevirtual 90, 3, 70, 7)) (tr_l 162 (.ireturn, 1, 1, 0))))))))
def c_Kind_has : Nat → Option eg_E := (tr_n 5 (tr_n 1 (tr_n 0 (tr_l 0 (.aload_n 0, 1, 0, 0)) (tr_l 1 (.getfield 84, 3, 4, 11))) (tr_n 4 (tr_l 4 (.iload_n 1, 1, 0, 0)) (tr_l 5 (.invokevirtual 90, 3, 139, 12)))) (tr_n 11 (tr_n 8 (tr_l 8 (.ifCond .lt 7, 3, 15, 0)) (tr_l 11 (.iconst 1, 1, 0, 0))) (tr_n 12 (tr_l 12 (.goto 4, 3, 16, 0)) (tr_n 15 (tr_l 15 (.iconst 0, 1, 0, 0)) (tr_l 16 (.ireturn, 1, 2, 0))))))
def c_Reading_goal : Nat → Option eg_E := (tr_n 4 (tr_n 0 (tr_l 0 (.aload_n 0, 1, 0, 0)) (tr_n 1 (tr_l 1 (.getfield 40, 3, 1, 7)) (tr_l 4 (.aload_n 0, 1, 0, 0)))) (tr_n 5 (tr_l 5 (.getfield 69, 3, 4, 7)) (tr_n 8 (tr_l 8 (.iadd, 1, 0, 0)) (tr_l 9 (.ireturn, 1, 1, 0)))))
def c_Reading_caseDistance : Nat → Option eg_E := (tr_n 15 (tr_n 7 (tr_n 1 (tr_n 0 (tr_l 0 (.aload_n 0, 1, 0, 0)) (tr_l 1 (.getfield 15, 3, 0, 7))) (tr_n 4 (tr_l 4 (.getstatic 44, 3, 15, 0)) (tr_l 7 (.if_acmp .ne 24, 3, 31, 0)))) (tr_n 11 (tr_n 10 (tr_l 10 (.iload_n 1, 1, 0, 0)) (tr_l 11 (.ifCond .lt 20, 3, 31, 0))) (tr_n 14 (tr_l 14 (.iload_n 1, 1, 0, 0)) (tr_l 15 (.aload_n 0, 1, 0, 0))))) (tr_n 23 (tr_n 19 (tr_n 16 (tr_l 16 (.getfield 61, 3, 5, 7)) (tr_l 19 (.if_icmp .ge 12, 3, 31, 0))) (tr_n 22 (tr_l 22 (.aload_n 0, 1, 0, 0)) (tr_l 23 (.getfield 24, 3, 6, 7)))) (tr_n 27 (tr_n 26 (tr_l 26 (.iload_n 1, 1, 0, 0)) (tr_l 27 (.iaload, 1, 0, 0))) (tr_n 28 (tr_l 28 (.goto 5, 3, 33, 0)) (tr_n 31 (tr_l 31 (.bipush (-2), 2, 0, 0)) (tr_l 33 (.ireturn, 1, 1, 0)))))))
def c_U_check : Nat → Option eg_E := (tr_n 40 (tr_n 19 (tr_n 8 (tr_n 1 (tr_n 0 (tr_l 0 (.aload_n 0, 1, 0, 0)) (tr_l 1 (.getfield 28, 3, 2, 1))) (tr_n 4 (tr_l 4 (.aload_n 0, 1, 0, 0)) (tr_n 5 (tr_l 5 (.getfield 35, 3, 3, 1)) (tr_l 8 (.invokevirtual 131, 3, 72, 6))))) (tr_n 13 (tr_n 11 (tr_l 11 (.istore_n 1, 1, 0, 0)) (tr_n 12 (tr_l 12 (.iload_n 1, 1, 0, 0)) (tr_l 13 (.bipush (-2), 2, 0, 0)))) (tr_n 15 (tr_l 15 (.if_icmp .eq 5, 3, 20, 0)) (tr_n 18 (tr_l 18 (.iload_n 1, 1, 0, 0)) (tr_l 19 (.ireturn, 1, 1, 0)))))) (tr_n 24 (tr_n 21 (tr_n 20 (tr_l 20 (.iconst 0, 1, 0, 0)) (tr_l 21 (.istore_n 2, 1, 0, 0))) (tr_n 22 (tr_l 22 (.iload_n 2, 1, 0, 0)) (tr_n 23 (tr_l 23 (.aload_n 0, 1, 0, 0)) (tr_l 24 (.getfield 28, 3, 2, 1))))) (tr_n 33 (tr_n 27 (tr_l 27 (.getfield 91, 3, 1, 6)) (tr_n 30 (tr_l 30 (.if_icmp .ge 54, 3, 84, 0)) (tr_l 33 (.aload_n 0, 1, 0, 0)))) (tr_n 34 (tr_l 34 (.getfield 28, 3, 2, 1)) (tr_n 37 (tr_l 37 (.getfield 135, 3, 2, 6)) (tr_l 40 (.iload_n 2, 1, 0, 0))))))) (tr_n 62 (tr_n 48 (tr_n 42 (tr_n 41 (tr_l 41 (.iaload, 1, 0, 0)) (tr_l 42 (.bipush (-2), 2, 0, 0))) (tr_n 44 (tr_l 44 (.if_icmp .eq 34, 3, 78, 0)) (tr_n 47 (tr_l 47 (.aload_n 0, 1, 0, 0)) (tr_l 48 (.getfield 35, 3, 3, 1))))) (tr_n 55 (tr_n 51 (tr_l 51 (.aload_n 0, 1, 0, 0)) (tr_n 52 (tr_l 52 (.getfield 28, 3, 2, 1)) (tr_l 55 (.iload_n 2, 1, 0, 0)))) (tr_n 56 (tr_l 56 (.invokevirtual 124, 3, 62, 7)) (tr_n 59 (tr_l 59 (.ifCond .eq 19, 3, 78, 0)) (tr_l 62 (.aload_n 0, 1, 0, 0)))))) (tr_n 73 (tr_n 66 (tr_n 63 (tr_l 63 (.getfield 28, 3, 2, 1)) (tr_l 66 (.aload_n 0, 1, 0, 0))) (tr_n 67 (tr_l 67 (.getfield 35, 3, 3, 1)) (tr_n 70 (tr_l 70 (.invokevirtual 138, 3, 73, 6)) (tr_l 73 (.ifCond .eq 5, 3, 78, 0))))) (tr_n 78 (tr_n 76 (tr_l 76 (.iload_n 2, 1, 0, 0)) (tr_n 77 (tr_l 77 (.ireturn, 1, 1, 0)) (tr_l 78 (.iinc 2 1, 3, 0, 0)))) (tr_n 81 (tr_l 81 (.goto (-59), 3, 22, 0)) (tr_n 84 (tr_l 84 (.bipush (-2), 2, 0, 0)) (tr_l 86 (.ireturn, 1, 1, 0))))))))
def c_Code_markBeginnings : Nat → Option eg_E := (tr_n 27 (tr_n 12 (tr_n 3 (tr_n 1 (tr_n 0 (tr_l 0 (.iconst 0, 1, 0, 0)) (tr_l 1 (.istore_n 2, 1, 0, 0))) (tr_n 2 (tr_l 2 (.iconst 0, 1, 0, 0)) (tr_l 3 (.istore_n 3, 1, 0, 0)))) (tr_n 5 (tr_n 4 (tr_l 4 (.iload_n 3, 1, 0, 0)) (tr_l 5 (.aload_n 0, 1, 0, 0))) (tr_n 6 (tr_l 6 (.getfield 18, 3, 1, 6)) (tr_n 9 (tr_l 9 (.if_icmp .ge 53, 3, 62, 0)) (tr_l 12 (.aload_n 0, 1, 0, 0)))))) (tr_n 20 (tr_n 16 (tr_n 13 (tr_l 13 (.getfield 15, 3, 2, 6)) (tr_l 16 (.iload_n 3, 1, 0, 0))) (tr_n 17 (tr_l 17 (.bipush (-2), 2, 0, 0)) (tr_n 19 (tr_l 19 (.iastore, 1, 0, 0)) (tr_l 20 (.iload_n 3, 1, 0, 0))))) (tr_n 22 (tr_n 21 (tr_l 21 (.iload_n 2, 1, 0, 0)) (tr_l 22 (.if_icmp .ne 34, 3, 56, 0))) (tr_n 25 (tr_l 25 (.aload_n 1, 1, 0, 0)) (tr_n 26 (tr_l 26 (.aload_n 0, 1, 0, 0)) (tr_l 27 (.iload_n 3, 1, 0, 0))))))) (tr_n 45 (tr_n 36 (tr_n 31 (tr_n 28 (tr_l 28 (.invokevirtual 22, 3, 62, 7)) (tr_l 31 (.ifCond .ne 5, 3, 36, 0))) (tr_n 34 (tr_l 34 (.iload_n 3, 1, 0, 0)) (tr_n 35 (tr_l 35 (.ireturn, 1, 1, 0)) (tr_l 36 (.aload_n 0, 1, 0, 0))))) (tr_n 40 (tr_n 37 (tr_l 37 (.getfield 15, 3, 2, 6)) (tr_l 40 (.iload_n 3, 1, 0, 0))) (tr_n 41 (tr_l 41 (.aload_n 1, 1, 0, 0)) (tr_n 42 (tr_l 42 (.getfield 28, 3, 0, 7)) (tr_l 45 (.getfield 32, 3, 1, 11)))))) (tr_n 54 (tr_n 49 (tr_n 48 (tr_l 48 (.iastore, 1, 0, 0)) (tr_l 49 (.iload_n 3, 1, 0, 0))) (tr_n 50 (tr_l 50 (.aload_n 1, 1, 0, 0)) (tr_n 51 (tr_l 51 (.getfield 37, 3, 2, 7)) (tr_l 54 (.iadd, 1, 0, 0))))) (tr_n 56 (tr_n 55 (tr_l 55 (.istore_n 2, 1, 0, 0)) (tr_l 56 (.iinc 3 1, 3, 0, 0))) (tr_n 59 (tr_l 59 (.goto (-55), 3, 4, 0)) (tr_n 62 (tr_l 62 (.bipush (-2), 2, 0, 0)) (tr_l 64 (.ireturn, 1, 1, 0))))))))
def c_Code_strays : Nat → Option eg_E := (tr_n 34 (tr_n 16 (tr_n 7 (tr_n 1 (tr_n 0 (tr_l 0 (.aload_n 1, 1, 0, 0)) (tr_l 1 (.getfield 28, 3, 0, 7))) (tr_n 4 (tr_l 4 (.getfield 40, 3, 7, 11)) (tr_l 7 (.ifCond .ne 5, 3, 12, 0)))) (tr_n 11 (tr_n 10 (tr_l 10 (.iconst 0, 1, 0, 0)) (tr_l 11 (.ireturn, 1, 2, 0))) (tr_n 12 (tr_l 12 (.aload_n 1, 1, 0, 0)) (tr_n 13 (tr_l 13 (.invokevirtual 44, 3, 69, 7)) (tr_l 16 (.istore_n 2, 1, 0, 0)))))) (tr_n 25 (tr_n 18 (tr_n 17 (tr_l 17 (.aload_n 0, 1, 0, 0)) (tr_l 18 (.iload_n 2, 1, 0, 0))) (tr_n 19 (tr_l 19 (.invokevirtual 48, 3, 59, 6)) (tr_n 22 (tr_l 22 (.ifCond .eq 12, 3, 34, 0)) (tr_l 25 (.aload_n 0, 1, 0, 0))))) (tr_n 29 (tr_n 26 (tr_l 26 (.getfield 15, 3, 2, 6)) (tr_l 29 (.iload_n 2, 1, 0, 0))) (tr_n 30 (tr_l 30 (.iaload, 1, 0, 0)) (tr_n 31 (tr_l 31 (.goto 5, 3, 36, 0)) (tr_l 34 (.bipush (-2), 2, 0, 0))))))) (tr_n 57 (tr_n 44 (tr_n 37 (tr_n 36 (tr_l 36 (.istore_n 3, 1, 0, 0)) (tr_l 37 (.aload_n 1, 1, 0, 0))) (tr_n 38 (tr_l 38 (.getfield 28, 3, 0, 7)) (tr_n 41 (tr_l 41 (.getstatic 52, 3, 14, 0)) (tr_l 44 (.if_acmp .ne 21, 3, 65, 0))))) (tr_n 48 (tr_n 47 (tr_l 47 (.iload_n 3, 1, 0, 0)) (tr_l 48 (.getstatic 55, 3, 15, 0))) (tr_n 51 (tr_l 51 (.getfield 32, 3, 1, 11)) (tr_n 54 (tr_l 54 (.if_icmp .eq 7, 3, 61, 0)) (tr_l 57 (.iconst 1, 1, 0, 0)))))) (tr_n 66 (tr_n 61 (tr_n 58 (tr_l 58 (.goto 18, 3, 76, 0)) (tr_l 61 (.iconst 0, 1, 0, 0))) (tr_n 62 (tr_l 62 (.goto 14, 3, 76, 0)) (tr_n 65 (tr_l 65 (.iload_n 3, 1, 0, 0)) (tr_l 66 (.bipush (-2), 2, 0, 0))))) (tr_n 71 (tr_n 68 (tr_l 68 (.if_icmp .ne 7, 3, 75, 0)) (tr_l 71 (.iconst 1, 1, 0, 0))) (tr_n 72 (tr_l 72 (.goto 4, 3, 76, 0)) (tr_n 75 (tr_l 75 (.iconst 0, 1, 0, 0)) (tr_l 76 (.ireturn, 1, 2, 0))))))))
def c_U_told : Nat → Option eg_E := (tr_n 37 (tr_n 17 (tr_n 5 (tr_n 1 (tr_n 0 (tr_l 0 (.aload_n 0, 1, 0, 0)) (tr_l 1 (.getfield 35, 3, 3, 1))) (tr_n 4 (tr_l 4 (.aload_n 0, 1, 0, 0)) (tr_l 5 (.getfield 28, 3, 2, 1)))) (tr_n 9 (tr_n 8 (tr_l 8 (.iload_n 1, 1, 0, 0)) (tr_l 9 (.invokevirtual 124, 3, 62, 7))) (tr_n 12 (tr_l 12 (.ifCond .ne 6, 3, 18, 0)) (tr_n 15 (tr_l 15 (.bipush (-7), 2, 0, 0)) (tr_l 17 (.ireturn, 1, 1, 0)))))) (tr_n 26 (tr_n 19 (tr_n 18 (tr_l 18 (.aload_n 0, 1, 0, 0)) (tr_l 19 (.getfield 49, 3, 5, 1))) (tr_n 22 (tr_l 22 (.iconst 0, 1, 0, 0)) (tr_n 23 (tr_l 23 (.invokevirtual 142, 3, 155, 10)) (tr_l 26 (.aload_n 0, 1, 0, 0))))) (tr_n 30 (tr_n 27 (tr_l 27 (.getfield 35, 3, 3, 1)) (tr_l 30 (.aload_n 0, 1, 0, 0))) (tr_n 31 (tr_l 31 (.getfield 49, 3, 5, 1)) (tr_n 34 (tr_l 34 (.invokevirtual 145, 3, 75, 7)) (tr_l 37 (.iload_n 2, 1, 0, 0))))))) (tr_n 55 (tr_n 46 (tr_n 39 (tr_n 38 (tr_l 38 (.iconst (-1), 1, 0, 0)) (tr_l 39 (.if_icmp .ne 11, 3, 50, 0))) (tr_n 42 (tr_l 42 (.aload_n 0, 1, 0, 0)) (tr_n 43 (tr_l 43 (.getfield 49, 3, 5, 1)) (tr_l 46 (.invokevirtual 149, 3, 154, 10))))) (tr_n 50 (tr_n 49 (tr_l 49 (.ireturn, 1, 1, 0)) (tr_l 50 (.iload_n 2, 1, 0, 0))) (tr_n 51 (tr_l 51 (.ifCond .lt 25, 3, 76, 0)) (tr_n 54 (tr_l 54 (.iload_n 2, 1, 0, 0)) (tr_l 55 (.aload_n 0, 1, 0, 0)))))) (tr_n 66 (tr_n 59 (tr_n 56 (tr_l 56 (.getfield 49, 3, 5, 1)) (tr_l 59 (.invokevirtual 149, 3, 154, 10))) (tr_n 62 (tr_l 62 (.if_icmp .ge 14, 3, 76, 0)) (tr_n 65 (tr_l 65 (.aload_n 0, 1, 0, 0)) (tr_l 66 (.getfield 49, 3, 5, 1))))) (tr_n 70 (tr_n 69 (tr_l 69 (.iload_n 2, 1, 0, 0)) (tr_l 70 (.invokevirtual 151, 3, 153, 10))) (tr_n 73 (tr_l 73 (.goto 5, 3, 78, 0)) (tr_n 76 (tr_l 76 (.bipush (-2), 2, 0, 0)) (tr_l 78 (.ireturn, 1, 1, 0))))))))
def c_Reading_tell : Nat → Option eg_E := (tr_n 19 (tr_n 11 (tr_n 2 (tr_n 0 (tr_l 0 (.aload_n 1, 1, 0, 0)) (tr_n 1 (tr_l 1 (.aload_n 0, 1, 0, 0)) (tr_l 2 (.getfield 15, 3, 0, 7)))) (tr_n 5 (tr_l 5 (.getfield 93, 3, 3, 11)) (tr_n 8 (tr_l 8 (.invokevirtual 97, 3, 152, 10)) (tr_l 11 (.pop, 1, 0, 0))))) (tr_n 14 (tr_n 12 (tr_l 12 (.iconst 0, 1, 0, 0)) (tr_n 13 (tr_l 13 (.istore_n 2, 1, 0, 0)) (tr_l 14 (.iload_n 2, 1, 0, 0)))) (tr_n 15 (tr_l 15 (.aload_n 0, 1, 0, 0)) (tr_n 16 (tr_l 16 (.getfield 15, 3, 0, 7)) (tr_l 19 (.getfield 103, 3, 4, 11)))))) (tr_n 33 (tr_n 28 (tr_n 22 (tr_l 22 (.invokevirtual 106, 3, 135, 12)) (tr_n 25 (tr_l 25 (.if_icmp .ge 22, 3, 47, 0)) (tr_l 28 (.aload_n 0, 1, 0, 0)))) (tr_n 29 (tr_l 29 (.aload_n 0, 1, 0, 0)) (tr_n 30 (tr_l 30 (.getfield 15, 3, 0, 7)) (tr_l 33 (.iload_n 2, 1, 0, 0))))) (tr_n 38 (tr_n 34 (tr_l 34 (.invokevirtual 111, 3, 33, 11)) (tr_n 37 (tr_l 37 (.aload_n 1, 1, 0, 0)) (tr_l 38 (.invokevirtual 115, 3, 76, 7)))) (tr_n 41 (tr_l 41 (.iinc 2 1, 3, 0, 0)) (tr_n 44 (tr_l 44 (.goto (-30), 3, 14, 0)) (tr_l 47 (.return_, 1, 0, 0)))))))
def c_Reading_tellArgument : Nat → Option eg_E := (tr_n 40 (tr_n 19 (tr_n 7 (tr_n 1 (tr_n 0 (tr_l 0 (.iload_n 1, 1, 0, 0)) (tr_l 1 (.bipush 110, 2, 0, 0))) (tr_n 3 (tr_l 3 (.if_icmp .ne 20, 3, 23, 0)) (tr_n 6 (tr_l 6 (.aload_n 2, 1, 0, 0)) (tr_l 7 (.bipush 32, 2, 0, 0))))) (tr_n 12 (tr_n 9 (tr_l 9 (.invokevirtual 119, 3, 150, 10)) (tr_l 12 (.aload_n 0, 1, 0, 0))) (tr_n 13 (tr_l 13 (.getfield 69, 3, 4, 7)) (tr_n 16 (tr_l 16 (.invokevirtual 122, 3, 151, 10)) (tr_l 19 (.pop, 1, 0, 0)))))) (tr_n 29 (tr_n 23 (tr_n 20 (tr_l 20 (.goto 63, 3, 83, 0)) (tr_l 23 (.iload_n 1, 1, 0, 0))) (tr_n 24 (tr_l 24 (.bipush 76, 2, 0, 0)) (tr_n 26 (tr_l 26 (.if_icmp .eq 25, 3, 51, 0)) (tr_l 29 (.aload_n 2, 1, 0, 0))))) (tr_n 35 (tr_n 30 (tr_l 30 (.ldc 125, 2, 0, 53)) (tr_n 32 (tr_l 32 (.invokevirtual 97, 3, 152, 10)) (tr_l 35 (.aload_n 0, 1, 0, 0)))) (tr_n 36 (tr_l 36 (.getfield 20, 3, 3, 7)) (tr_n 39 (tr_l 39 (.iload_n 1, 1, 0, 0)) (tr_l 40 (.bipush 65, 2, 0, 0))))))) (tr_n 61 (tr_n 48 (tr_n 43 (tr_n 42 (tr_l 42 (.isub, 1, 0, 0)) (tr_l 43 (.iaload, 1, 0, 0))) (tr_n 44 (tr_l 44 (.invokevirtual 122, 3, 151, 10)) (tr_n 47 (tr_l 47 (.pop, 1, 0, 0)) (tr_l 48 (.goto 35, 3, 83, 0))))) (tr_n 52 (tr_n 51 (tr_l 51 (.aload_n 0, 1, 0, 0)) (tr_l 52 (.getfield 15, 3, 0, 7))) (tr_n 55 (tr_l 55 (.getstatic 44, 3, 15, 0)) (tr_n 58 (tr_l 58 (.if_acmp .ne 11, 3, 69, 0)) (tr_l 61 (.aload_n 0, 1, 0, 0)))))) (tr_n 70 (tr_n 63 (tr_n 62 (tr_l 62 (.aload_n 2, 1, 0, 0)) (tr_l 63 (.invokevirtual 127, 3, 77, 7))) (tr_n 66 (tr_l 66 (.goto 17, 3, 83, 0)) (tr_n 69 (tr_l 69 (.aload_n 2, 1, 0, 0)) (tr_l 70 (.bipush 32, 2, 0, 0))))) (tr_n 76 (tr_n 72 (tr_l 72 (.invokevirtual 119, 3, 150, 10)) (tr_n 75 (tr_l 75 (.aload_n 0, 1, 0, 0)) (tr_l 76 (.invokevirtual 86, 3, 69, 7)))) (tr_n 79 (tr_l 79 (.invokevirtual 122, 3, 151, 10)) (tr_n 82 (tr_l 82 (.pop, 1, 0, 0)) (tr_l 83 (.return_, 1, 0, 0))))))))
def c_Reading_tellCases : Nat → Option eg_E := (tr_n 13 (tr_n 3 (tr_n 1 (tr_n 0 (tr_l 0 (.iconst 0, 1, 0, 0)) (tr_l 1 (.istore_n 2, 1, 0, 0))) (tr_n 2 (tr_l 2 (.iload_n 2, 1, 0, 0)) (tr_l 3 (.aload_n 0, 1, 0, 0)))) (tr_n 7 (tr_n 4 (tr_l 4 (.getfield 61, 3, 5, 7)) (tr_l 7 (.if_icmp .ge 25, 3, 32, 0))) (tr_n 10 (tr_l 10 (.aload_n 1, 1, 0, 0)) (tr_n 11 (tr_l 11 (.bipush 32, 2, 0, 0)) (tr_l 13 (.invokevirtual 119, 3, 150, 10)))))) (tr_n 21 (tr_n 17 (tr_n 16 (tr_l 16 (.aload_n 0, 1, 0, 0)) (tr_l 17 (.getfield 24, 3, 6, 7))) (tr_n 20 (tr_l 20 (.iload_n 2, 1, 0, 0)) (tr_l 21 (.iaload, 1, 0, 0)))) (tr_n 25 (tr_n 22 (tr_l 22 (.invokevirtual 122, 3, 151, 10)) (tr_l 25 (.pop, 1, 0, 0))) (tr_n 26 (tr_l 26 (.iinc 2 1, 3, 0, 0)) (tr_n 29 (tr_l 29 (.goto (-27), 3, 2, 0)) (tr_l 32 (.return_, 1, 0, 0)))))))
def c_U_run : Nat → Option eg_E := (tr_n 12 (tr_n 5 (tr_n 1 (tr_n 0 (tr_l 0 (.iload_n 1, 1, 0, 0)) (tr_l 1 (.iconst 1, 1, 0, 0))) (tr_n 2 (tr_l 2 (.if_icmp .lt 9, 3, 11, 0)) (tr_l 5 (.iload_n 1, 1, 0, 0)))) (tr_n 8 (tr_n 6 (tr_l 6 (.bipush 30, 2, 0, 0)) (tr_l 8 (.if_icmp .le 5, 3, 13, 0))) (tr_n 11 (tr_l 11 (.iconst (-1), 1, 0, 0)) (tr_l 12 (.ireturn, 1, 1, 0))))) (tr_n 18 (tr_n 14 (tr_n 13 (tr_l 13 (.aload_n 0, 1, 0, 0)) (tr_l 14 (.getfield 42, 3, 4, 1))) (tr_n 17 (tr_l 17 (.aload_n 0, 1, 0, 0)) (tr_l 18 (.getfield 28, 3, 2, 1)))) (tr_n 22 (tr_n 21 (tr_l 21 (.aload_n 0, 1, 0, 0)) (tr_l 22 (.getfield 35, 3, 3, 1))) (tr_n 25 (tr_l 25 (.iload_n 1, 1, 0, 0)) (tr_n 26 (tr_l 26 (.invokevirtual 155, 3, 79, 8)) (tr_l 29 (.ireturn, 1, 1, 0)))))))
def c_Machine_goOn : Nat → Option eg_E := (tr_n 33 (tr_n 16 (tr_n 5 (tr_n 1 (tr_n 0 (tr_l 0 (.iconst 0, 1, 0, 0)) (tr_l 1 (.istore 4, 2, 0, 0))) (tr_n 3 (tr_l 3 (.iload 4, 2, 0, 0)) (tr_l 5 (.iload_n 3, 1, 0, 0)))) (tr_n 9 (tr_n 6 (tr_l 6 (.if_icmp .ge 57, 3, 63, 0)) (tr_l 9 (.aload_n 0, 1, 0, 0))) (tr_n 10 (tr_l 10 (.getfield 15, 3, 3, 8)) (tr_n 13 (tr_l 13 (.ifCond .ne 50, 3, 63, 0)) (tr_l 16 (.aload_n 2, 1, 0, 0)))))) (tr_n 22 (tr_n 18 (tr_n 17 (tr_l 17 (.aload_n 1, 1, 0, 0)) (tr_l 18 (.aload_n 0, 1, 0, 0))) (tr_n 19 (tr_l 19 (.getfield 26, 3, 1, 8)) (tr_l 22 (.invokevirtual 35, 3, 62, 7)))) (tr_n 28 (tr_n 25 (tr_l 25 (.ifCond .ne 11, 3, 36, 0)) (tr_l 28 (.aload_n 0, 1, 0, 0))) (tr_n 29 (tr_l 29 (.iconst 2, 1, 0, 0)) (tr_n 30 (tr_l 30 (.putfield 15, 3, 3, 8)) (tr_l 33 (.bipush (-7), 2, 0, 0))))))) (tr_n 47 (tr_n 38 (tr_n 36 (tr_n 35 (tr_l 35 (.ireturn, 1, 1, 0)) (tr_l 36 (.aload_n 0, 1, 0, 0))) (tr_n 37 (tr_l 37 (.aload_n 2, 1, 0, 0)) (tr_l 38 (.invokevirtual 39, 3, 80, 8)))) (tr_n 42 (tr_n 41 (tr_l 41 (.aload_n 0, 1, 0, 0)) (tr_l 42 (.aload_n 1, 1, 0, 0))) (tr_n 43 (tr_l 43 (.aload_n 2, 1, 0, 0)) (tr_n 44 (tr_l 44 (.invokevirtual 43, 3, 81, 8)) (tr_l 47 (.iinc 4 1, 3, 0, 0)))))) (tr_n 55 (tr_n 51 (tr_n 50 (tr_l 50 (.aload_n 0, 1, 0, 0)) (tr_l 51 (.dup, 1, 0, 0))) (tr_n 52 (tr_l 52 (.getfield 29, 3, 2, 8)) (tr_l 55 (.iconst 1, 1, 0, 0)))) (tr_n 57 (tr_n 56 (tr_l 56 (.iadd, 1, 0, 0)) (tr_l 57 (.putfield 29, 3, 2, 8))) (tr_n 60 (tr_l 60 (.goto (-57), 3, 3, 0)) (tr_n 63 (tr_l 63 (.iload 4, 2, 0, 0)) (tr_l 65 (.ireturn, 1, 1, 0))))))))
def c_Machine_calculate : Nat → Option eg_E := (tr_n 99 (tr_n 27 (tr_n 12 (tr_n 5 (tr_n 1 (tr_n 0 (tr_l 0 (.aload_n 1, 1, 0, 0)) (tr_l 1 (.getfield 47, 3, 3, 7))) (tr_n 4 (tr_l 4 (.iconst 0, 1, 0, 0)) (tr_l 5 (.iaload, 1, 0, 0)))) (tr_n 7 (tr_n 6 (tr_l 6 (.istore_n 2, 1, 0, 0)) (tr_l 7 (.aload_n 0, 1, 0, 0))) (tr_n 8 (tr_l 8 (.getfield 9, 3, 0, 8)) (tr_n 11 (tr_l 11 (.aload_n 1, 1, 0, 0)) (tr_l 12 (.getfield 47, 3, 3, 7)))))) (tr_n 18 (tr_n 16 (tr_n 15 (tr_l 15 (.iconst 1, 1, 0, 0)) (tr_l 16 (.iaload, 1, 0, 0))) (tr_n 17 (tr_l 17 (.iaload, 1, 0, 0)) (tr_l 18 (.istore_n 3, 1, 0, 0)))) (tr_n 20 (tr_n 19 (tr_l 19 (.aload_n 0, 1, 0, 0)) (tr_l 20 (.getfield 9, 3, 0, 8))) (tr_n 23 (tr_l 23 (.aload_n 1, 1, 0, 0)) (tr_n 24 (tr_l 24 (.getfield 47, 3, 3, 7)) (tr_l 27 (.iconst 2, 1, 0, 0))))))) (tr_n 43 (tr_n 32 (tr_n 29 (tr_n 28 (tr_l 28 (.iaload, 1, 0, 0)) (tr_l 29 (.iaload, 1, 0, 0))) (tr_n 30 (tr_l 30 (.istore 4, 2, 0, 0)) (tr_l 32 (.getstatic 48, 3, 17, 0)))) (tr_n 36 (tr_n 35 (tr_l 35 (.aload_n 1, 1, 0, 0)) (tr_l 36 (.getfield 53, 3, 0, 7))) (tr_n 39 (tr_l 39 (.invokevirtual 57, 3, 172, 11)) (tr_n 42 (tr_l 42 (.iaload, 1, 0, 0)) (tr_l 43 (.tableswitch 118 1 7 #[41, 51, 51, 64, 77, 90, 103], 41, 0, 0)))))) (tr_n 90 (tr_n 85 (tr_n 84 (tr_l 84 (.aload_n 0, 1, 0, 0)) (tr_l 85 (.getfield 9, 3, 0, 8))) (tr_n 88 (tr_l 88 (.iload_n 2, 1, 0, 0)) (tr_n 89 (tr_l 89 (.iload_n 3, 1, 0, 0)) (tr_l 90 (.iastore, 1, 0, 0))))) (tr_n 94 (tr_n 91 (tr_l 91 (.goto 70, 3, 161, 0)) (tr_l 94 (.aload_n 0, 1, 0, 0))) (tr_n 95 (tr_l 95 (.getfield 9, 3, 0, 8)) (tr_n 98 (tr_l 98 (.iload_n 2, 1, 0, 0)) (tr_l 99 (.aload_n 1, 1, 0, 0)))))))) (tr_n 129 (tr_n 115 (tr_n 107 (tr_n 103 (tr_n 100 (tr_l 100 (.getfield 63, 3, 4, 7)) (tr_l 103 (.iastore, 1, 0, 0))) (tr_n 104 (tr_l 104 (.goto 57, 3, 161, 0)) (tr_l 107 (.aload_n 0, 1, 0, 0)))) (tr_n 111 (tr_n 108 (tr_l 108 (.getfield 9, 3, 0, 8)) (tr_l 111 (.iload_n 2, 1, 0, 0))) (tr_n 112 (tr_l 112 (.iload_n 3, 1, 0, 0)) (tr_n 113 (tr_l 113 (.iload 4, 2, 0, 0)) (tr_l 115 (.iadd, 1, 0, 0)))))) (tr_n 121 (tr_n 117 (tr_n 116 (tr_l 116 (.iastore, 1, 0, 0)) (tr_l 117 (.goto 44, 3, 161, 0))) (tr_n 120 (tr_l 120 (.aload_n 0, 1, 0, 0)) (tr_l 121 (.getfield 9, 3, 0, 8)))) (tr_n 125 (tr_n 124 (tr_l 124 (.iload_n 2, 1, 0, 0)) (tr_l 125 (.iload_n 3, 1, 0, 0))) (tr_n 126 (tr_l 126 (.iload 4, 2, 0, 0)) (tr_n 128 (tr_l 128 (.isub, 1, 0, 0)) (tr_l 129 (.iastore, 1, 0, 0))))))) (tr_n 143 (tr_n 137 (tr_n 133 (tr_n 130 (tr_l 130 (.goto 31, 3, 161, 0)) (tr_l 133 (.aload_n 0, 1, 0, 0))) (tr_n 134 (tr_l 134 (.getfield 9, 3, 0, 8)) (tr_l 137 (.iload_n 2, 1, 0, 0)))) (tr_n 139 (tr_n 138 (tr_l 138 (.iload_n 3, 1, 0, 0)) (tr_l 139 (.iload 4, 2, 0, 0))) (tr_n 141 (tr_l 141 (.imul, 1, 0, 0)) (tr_n 142 (tr_l 142 (.iastore, 1, 0, 0)) (tr_l 143 (.goto 18, 3, 161, 0)))))) (tr_n 152 (tr_n 147 (tr_n 146 (tr_l 146 (.aload_n 0, 1, 0, 0)) (tr_l 147 (.getfield 9, 3, 0, 8))) (tr_n 150 (tr_l 150 (.iload_n 2, 1, 0, 0)) (tr_n 151 (tr_l 151 (.iload_n 3, 1, 0, 0)) (tr_l 152 (.aload_n 1, 1, 0, 0))))) (tr_n 156 (tr_n 153 (tr_l 153 (.getfield 63, 3, 4, 7)) (tr_l 156 (.iadd, 1, 0, 0))) (tr_n 157 (tr_l 157 (.iastore, 1, 0, 0)) (tr_n 158 (tr_l 158 (.goto 3, 3, 161, 0)) (tr_l 161 (.return_, 1, 0, 0)))))))))
def c_Machine_moveOn : Nat → Option eg_E := (tr_n 46 (tr_n 19 (tr_n 9 (tr_n 4 (tr_n 0 (tr_l 0 (.aload_n 0, 1, 0, 0)) (tr_n 1 (tr_l 1 (.getfield 9, 3, 0, 8)) (tr_l 4 (.aload_n 2, 1, 0, 0)))) (tr_n 5 (tr_l 5 (.getfield 47, 3, 3, 7)) (tr_n 8 (tr_l 8 (.iconst 0, 1, 0, 0)) (tr_l 9 (.iaload, 1, 0, 0))))) (tr_n 12 (tr_n 10 (tr_l 10 (.iaload, 1, 0, 0)) (tr_n 11 (tr_l 11 (.istore_n 3, 1, 0, 0)) (tr_l 12 (.aload_n 2, 1, 0, 0)))) (tr_n 13 (tr_l 13 (.getfield 53, 3, 0, 7)) (tr_n 16 (tr_l 16 (.getstatic 66, 3, 2, 0)) (tr_l 19 (.if_acmp .ne 16, 3, 35, 0)))))) (tr_n 29 (tr_n 24 (tr_n 22 (tr_l 22 (.aload_n 0, 1, 0, 0)) (tr_n 23 (tr_l 23 (.iconst 1, 1, 0, 0)) (tr_l 24 (.putfield 15, 3, 3, 8)))) (tr_n 27 (tr_l 27 (.aload_n 0, 1, 0, 0)) (tr_n 28 (tr_l 28 (.iload_n 3, 1, 0, 0)) (tr_l 29 (.putfield 32, 3, 4, 8))))) (tr_n 36 (tr_n 32 (tr_l 32 (.goto 61, 3, 93, 0)) (tr_n 35 (tr_l 35 (.aload_n 2, 1, 0, 0)) (tr_l 36 (.getfield 53, 3, 0, 7)))) (tr_n 42 (tr_n 39 (tr_l 39 (.getstatic 69, 3, 14, 0)) (tr_l 42 (.if_acmp .ne 22, 3, 64, 0))) (tr_n 45 (tr_l 45 (.aload_n 0, 1, 0, 0)) (tr_l 46 (.dup, 1, 0, 0))))))) (tr_n 66 (tr_n 54 (tr_n 51 (tr_n 47 (tr_l 47 (.getfield 26, 3, 1, 8)) (tr_n 50 (tr_l 50 (.aload_n 0, 1, 0, 0)) (tr_l 51 (.aload_n 1, 1, 0, 0)))) (tr_n 52 (tr_l 52 (.aload_n 2, 1, 0, 0)) (tr_n 53 (tr_l 53 (.iload_n 3, 1, 0, 0)) (tr_l 54 (.invokevirtual 72, 3, 82, 8))))) (tr_n 61 (tr_n 57 (tr_l 57 (.iadd, 1, 0, 0)) (tr_n 58 (tr_l 58 (.putfield 26, 3, 1, 8)) (tr_l 61 (.goto 32, 3, 93, 0)))) (tr_n 64 (tr_l 64 (.aload_n 0, 1, 0, 0)) (tr_n 65 (tr_l 65 (.aload_n 0, 1, 0, 0)) (tr_l 66 (.aload_n 2, 1, 0, 0)))))) (tr_n 78 (tr_n 71 (tr_n 67 (tr_l 67 (.iload_n 3, 1, 0, 0)) (tr_n 68 (tr_l 68 (.invokevirtual 76, 3, 83, 8)) (tr_l 71 (.ifCond .eq 10, 3, 81, 0)))) (tr_n 74 (tr_l 74 (.aload_n 2, 1, 0, 0)) (tr_n 75 (tr_l 75 (.invokevirtual 80, 3, 69, 7)) (tr_l 78 (.goto 12, 3, 90, 0))))) (tr_n 85 (tr_n 81 (tr_l 81 (.aload_n 0, 1, 0, 0)) (tr_n 82 (tr_l 82 (.getfield 26, 3, 1, 8)) (tr_l 85 (.aload_n 2, 1, 0, 0)))) (tr_n 89 (tr_n 86 (tr_l 86 (.getfield 83, 3, 2, 7)) (tr_l 89 (.iadd, 1, 0, 0))) (tr_n 90 (tr_l 90 (.putfield 26, 3, 1, 8)) (tr_l 93 (.return_, 1, 0, 0))))))))
def c_Machine_tableDistance : Nat → Option eg_E := (tr_n 36 (tr_n 15 (tr_n 5 (tr_n 1 (tr_n 0 (tr_l 0 (.aload_n 0, 1, 0, 0)) (tr_l 1 (.getfield 22, 3, 5, 8))) (tr_n 4 (tr_l 4 (.aload_n 1, 1, 0, 0)) (tr_l 5 (.aload_n 2, 1, 0, 0)))) (tr_n 9 (tr_n 6 (tr_l 6 (.invokevirtual 80, 3, 69, 7)) (tr_l 9 (.invokevirtual 35, 3, 62, 7))) (tr_n 12 (tr_l 12 (.ifCond .eq 55, 3, 67, 0)) (tr_l 15 (.aload_n 0, 1, 0, 0))))) (tr_n 25 (tr_n 19 (tr_n 16 (tr_l 16 (.getfield 22, 3, 5, 8)) (tr_l 19 (.getfield 53, 3, 0, 7))) (tr_n 22 (tr_l 22 (.getstatic 86, 3, 15, 0)) (tr_l 25 (.if_acmp .ne 42, 3, 67, 0)))) (tr_n 29 (tr_n 28 (tr_l 28 (.iload_n 3, 1, 0, 0)) (tr_l 29 (.aload_n 0, 1, 0, 0))) (tr_n 30 (tr_l 30 (.getfield 22, 3, 5, 8)) (tr_n 33 (tr_l 33 (.getfield 63, 3, 4, 7)) (tr_l 36 (.isub, 1, 0, 0))))))) (tr_n 53 (tr_n 44 (tr_n 39 (tr_n 37 (tr_l 37 (.istore 4, 2, 0, 0)) (tr_l 39 (.iload 4, 2, 0, 0))) (tr_n 41 (tr_l 41 (.ifCond .lt 26, 3, 67, 0)) (tr_l 44 (.iload 4, 2, 0, 0)))) (tr_n 47 (tr_n 46 (tr_l 46 (.aload_n 0, 1, 0, 0)) (tr_l 47 (.getfield 22, 3, 5, 8))) (tr_n 50 (tr_l 50 (.getfield 89, 3, 5, 7)) (tr_l 53 (.if_icmp .ge 14, 3, 67, 0))))) (tr_n 63 (tr_n 57 (tr_n 56 (tr_l 56 (.aload_n 0, 1, 0, 0)) (tr_l 57 (.getfield 22, 3, 5, 8))) (tr_n 60 (tr_l 60 (.getfield 92, 3, 6, 7)) (tr_l 63 (.iload 4, 2, 0, 0)))) (tr_n 66 (tr_n 65 (tr_l 65 (.iaload, 1, 0, 0)) (tr_l 66 (.ireturn, 1, 1, 0))) (tr_n 67 (tr_l 67 (.aload_n 2, 1, 0, 0)) (tr_n 68 (tr_l 68 (.getfield 83, 3, 2, 7)) (tr_l 71 (.ireturn, 1, 1, 0))))))))
def c_Machine_leaps : Nat → Option eg_E := (tr_n 60 (tr_n 12 (tr_n 5 (tr_n 1 (tr_n 0 (tr_l 0 (.aload_n 0, 1, 0, 0)) (tr_l 1 (.getfield 9, 3, 0, 8))) (tr_n 4 (tr_l 4 (.aload_n 1, 1, 0, 0)) (tr_l 5 (.getfield 47, 3, 3, 7)))) (tr_n 9 (tr_n 8 (tr_l 8 (.iconst 1, 1, 0, 0)) (tr_l 9 (.iaload, 1, 0, 0))) (tr_n 10 (tr_l 10 (.iaload, 1, 0, 0)) (tr_n 11 (tr_l 11 (.istore_n 3, 1, 0, 0)) (tr_l 12 (.getstatic 48, 3, 17, 0)))))) (tr_n 23 (tr_n 16 (tr_n 15 (tr_l 15 (.aload_n 1, 1, 0, 0)) (tr_l 16 (.getfield 53, 3, 0, 7))) (tr_n 19 (tr_l 19 (.invokevirtual 57, 3, 172, 11)) (tr_n 22 (tr_l 22 (.iaload, 1, 0, 0)) (tr_l 23 (.tableswitch 67 8 12 #[33, 33, 35, 46, 57], 33, 0, 0))))) (tr_n 57 (tr_n 56 (tr_l 56 (.iconst 1, 1, 0, 0)) (tr_l 57 (.ireturn, 1, 2, 0))) (tr_n 58 (tr_l 58 (.iload_n 2, 1, 0, 0)) (tr_n 59 (tr_l 59 (.iload_n 3, 1, 0, 0)) (tr_l 60 (.if_icmp .ne 7, 3, 67, 0))))))) (tr_n 75 (tr_n 68 (tr_n 64 (tr_n 63 (tr_l 63 (.iconst 1, 1, 0, 0)) (tr_l 64 (.goto 4, 3, 68, 0))) (tr_n 67 (tr_l 67 (.iconst 0, 1, 0, 0)) (tr_l 68 (.ireturn, 1, 2, 0)))) (tr_n 70 (tr_n 69 (tr_l 69 (.iload_n 2, 1, 0, 0)) (tr_l 70 (.iload_n 3, 1, 0, 0))) (tr_n 71 (tr_l 71 (.if_icmp .ge 7, 3, 78, 0)) (tr_n 74 (tr_l 74 (.iconst 1, 1, 0, 0)) (tr_l 75 (.goto 4, 3, 79, 0)))))) (tr_n 84 (tr_n 79 (tr_n 78 (tr_l 78 (.iconst 0, 1, 0, 0)) (tr_l 79 (.ireturn, 1, 2, 0))) (tr_n 80 (tr_l 80 (.iload_n 2, 1, 0, 0)) (tr_n 81 (tr_l 81 (.ifCond .ne 7, 3, 88, 0)) (tr_l 84 (.iconst 1, 1, 0, 0))))) (tr_n 88 (tr_n 85 (tr_l 85 (.goto 4, 3, 89, 0)) (tr_l 88 (.iconst 0, 1, 0, 0))) (tr_n 89 (tr_l 89 (.ireturn, 1, 2, 0)) (tr_n 90 (tr_l 90 (.iconst 0, 1, 0, 0)) (tr_l 91 (.ireturn, 1, 2, 0))))))))
def c_U_state : Nat → Option eg_E := (tr_n 96 (tr_n 21 (tr_n 10 (tr_n 4 (tr_n 0 (tr_l 0 (.iload_n 1, 1, 0, 0)) (tr_n 1 (tr_l 1 (.ifCond .lt 19, 3, 20, 0)) (tr_l 4 (.iload_n 1, 1, 0, 0)))) (tr_n 5 (tr_l 5 (.bipush 16, 2, 0, 0)) (tr_n 7 (tr_l 7 (.if_icmp .ge 13, 3, 20, 0)) (tr_l 10 (.aload_n 0, 1, 0, 0))))) (tr_n 17 (tr_n 11 (tr_l 11 (.getfield 42, 3, 4, 1)) (tr_n 14 (tr_l 14 (.getfield 159, 3, 0, 8)) (tr_l 17 (.iload_n 1, 1, 0, 0)))) (tr_n 19 (tr_n 18 (tr_l 18 (.iaload, 1, 0, 0)) (tr_l 19 (.ireturn, 1, 1, 0))) (tr_n 20 (tr_l 20 (.iload_n 1, 1, 0, 0)) (tr_l 21 (.tableswitch 126 16 24 #[51, 59, 67, 75, 83, 91, 99, 110, 118], 51, 0, 0)))))) (tr_n 81 (tr_n 76 (tr_n 72 (tr_l 72 (.aload_n 0, 1, 0, 0)) (tr_n 73 (tr_l 73 (.getfield 42, 3, 4, 1)) (tr_l 76 (.getfield 162, 3, 1, 8)))) (tr_n 79 (tr_l 79 (.ireturn, 1, 1, 0)) (tr_n 80 (tr_l 80 (.aload_n 0, 1, 0, 0)) (tr_l 81 (.getfield 42, 3, 4, 1))))) (tr_n 88 (tr_n 84 (tr_l 84 (.getfield 165, 3, 2, 8)) (tr_n 87 (tr_l 87 (.ireturn, 1, 1, 0)) (tr_l 88 (.aload_n 0, 1, 0, 0)))) (tr_n 92 (tr_n 89 (tr_l 89 (.getfield 42, 3, 4, 1)) (tr_l 92 (.getfield 168, 3, 3, 8))) (tr_n 95 (tr_l 95 (.ireturn, 1, 1, 0)) (tr_l 96 (.aload_n 0, 1, 0, 0))))))) (tr_n 121 (tr_n 108 (tr_n 103 (tr_n 97 (tr_l 97 (.getfield 42, 3, 4, 1)) (tr_n 100 (tr_l 100 (.getfield 171, 3, 4, 8)) (tr_l 103 (.ireturn, 1, 1, 0)))) (tr_n 104 (tr_l 104 (.aload_n 0, 1, 0, 0)) (tr_n 105 (tr_l 105 (.getfield 28, 3, 2, 1)) (tr_l 108 (.getfield 91, 3, 1, 6))))) (tr_n 113 (tr_n 111 (tr_l 111 (.ireturn, 1, 1, 0)) (tr_n 112 (tr_l 112 (.aload_n 0, 1, 0, 0)) (tr_l 113 (.getfield 21, 3, 1, 1)))) (tr_n 119 (tr_n 116 (tr_l 116 (.getfield 68, 3, 1, 3)) (tr_l 119 (.ireturn, 1, 1, 0))) (tr_n 120 (tr_l 120 (.aload_n 0, 1, 0, 0)) (tr_l 121 (.getfield 21, 3, 1, 1)))))) (tr_n 135 (tr_n 130 (tr_n 124 (tr_l 124 (.getfield 174, 3, 2, 3)) (tr_n 127 (tr_l 127 (.getfield 178, 3, 2, 5)) (tr_l 130 (.ireturn, 1, 1, 0)))) (tr_n 131 (tr_l 131 (.aload_n 0, 1, 0, 0)) (tr_n 132 (tr_l 132 (.getfield 12, 3, 0, 1)) (tr_l 135 (.getfield 64, 3, 1, 2))))) (tr_n 140 (tr_n 138 (tr_l 138 (.ireturn, 1, 1, 0)) (tr_n 139 (tr_l 139 (.aload_n 0, 1, 0, 0)) (tr_l 140 (.getfield 21, 3, 1, 1)))) (tr_n 146 (tr_n 143 (tr_l 143 (.getfield 181, 3, 4, 3)) (tr_l 146 (.ireturn, 1, 1, 0))) (tr_n 147 (tr_l 147 (.bipush (-2), 2, 0, 0)) (tr_l 149 (.ireturn, 1, 1, 0))))))))
def c_M_init : Nat → Option eg_E := (tr_n 80 (tr_n 37 (tr_n 17 (tr_n 7 (tr_n 1 (tr_n 0 (tr_l 0 (.aload_n 0, 1, 0, 0)) (tr_l 1 (.invokespecial 1, 3, 0, 99))) (tr_n 4 (tr_l 4 (.aload_n 0, 1, 0, 0)) (tr_n 5 (tr_l 5 (.bipush 40, 2, 0, 0)) (tr_l 7 (.newarray .int, 2, 27, 0))))) (tr_n 12 (tr_n 9 (tr_l 9 (.putfield 7, 3, 0, 9)) (tr_l 12 (.aload_n 0, 1, 0, 0))) (tr_n 13 (tr_l 13 (.bipush 24, 2, 0, 0)) (tr_n 15 (tr_l 15 (.newarray .int, 2, 28, 0)) (tr_l 17 (.putfield 13, 3, 1, 9)))))) (tr_n 28 (tr_n 21 (tr_n 20 (tr_l 20 (.aload_n 0, 1, 0, 0)) (tr_l 21 (.bipush 24, 2, 0, 0))) (tr_n 23 (tr_l 23 (.newarray .int, 2, 29, 0)) (tr_n 25 (tr_l 25 (.putfield 16, 3, 2, 9)) (tr_l 28 (.aload_n 0, 1, 0, 0))))) (tr_n 31 (tr_n 29 (tr_l 29 (.bipush 40, 2, 0, 0)) (tr_l 31 (.newarray .int, 2, 30, 0))) (tr_n 33 (tr_l 33 (.putfield 19, 3, 5, 9)) (tr_n 36 (tr_l 36 (.aload_n 0, 1, 0, 0)) (tr_l 37 (.bipush 40, 2, 0, 0))))))) (tr_n 57 (tr_n 47 (tr_n 41 (tr_n 39 (tr_l 39 (.newarray .int, 2, 31, 0)) (tr_l 41 (.putfield 22, 3, 6, 9))) (tr_n 44 (tr_l 44 (.aload_n 0, 1, 0, 0)) (tr_n 45 (tr_l 45 (.bipush 40, 2, 0, 0)) (tr_l 47 (.newarray .int, 2, 32, 0))))) (tr_n 52 (tr_n 49 (tr_l 49 (.putfield 25, 3, 7, 9)) (tr_l 52 (.aload_n 0, 1, 0, 0))) (tr_n 53 (tr_l 53 (.bipush 40, 2, 0, 0)) (tr_n 55 (tr_l 55 (.newarray .int, 2, 33, 0)) (tr_l 57 (.putfield 28, 3, 8, 9)))))) (tr_n 68 (tr_n 61 (tr_n 60 (tr_l 60 (.aload_n 0, 1, 0, 0)) (tr_l 61 (.bipush 40, 2, 0, 0))) (tr_n 63 (tr_l 63 (.newarray .int, 2, 34, 0)) (tr_n 65 (tr_l 65 (.putfield 31, 3, 9, 9)) (tr_l 68 (.aload_n 0, 1, 0, 0))))) (tr_n 73 (tr_n 69 (tr_l 69 (.bipush 40, 2, 0, 0)) (tr_n 71 (tr_l 71 (.newarray .int, 2, 35, 0)) (tr_l 73 (.putfield 34, 3, 10, 9)))) (tr_n 76 (tr_l 76 (.aload_n 0, 1, 0, 0)) (tr_n 77 (tr_l 77 (.sipush 160, 3, 0, 0)) (tr_l 80 (.newarray .int, 2, 36, 0)))))))) (tr_n 121 (tr_n 101 (tr_n 90 (tr_n 85 (tr_n 82 (tr_l 82 (.putfield 37, 3, 11, 9)) (tr_l 85 (.aload_n 0, 1, 0, 0))) (tr_n 86 (tr_l 86 (.bipush 12, 2, 0, 0)) (tr_n 88 (tr_l 88 (.newarray .int, 2, 37, 0)) (tr_l 90 (.putfield 40, 3, 13, 9))))) (tr_n 94 (tr_n 93 (tr_l 93 (.aload_n 0, 1, 0, 0)) (tr_l 94 (.bipush 12, 2, 0, 0))) (tr_n 96 (tr_l 96 (.newarray .int, 2, 38, 0)) (tr_n 98 (tr_l 98 (.putfield 43, 3, 14, 9)) (tr_l 101 (.aload_n 0, 1, 0, 0)))))) (tr_n 109 (tr_n 103 (tr_n 102 (tr_l 102 (.iconst 4, 1, 0, 0)) (tr_l 103 (.newarray .int, 2, 39, 0))) (tr_n 105 (tr_l 105 (.putfield 46, 3, 22, 9)) (tr_n 108 (tr_l 108 (.aload_n 0, 1, 0, 0)) (tr_l 109 (.bipush 40, 2, 0, 0))))) (tr_n 116 (tr_n 111 (tr_l 111 (.newarray .boolean, 2, 40, 0)) (tr_n 113 (tr_l 113 (.putfield 49, 3, 23, 9)) (tr_l 116 (.aload_n 0, 1, 0, 0)))) (tr_n 117 (tr_l 117 (.bipush 41, 2, 0, 0)) (tr_n 119 (tr_l 119 (.newarray .int, 2, 41, 0)) (tr_l 121 (.putfield 53, 3, 24, 9))))))) (tr_n 143 (tr_n 133 (tr_n 125 (tr_n 124 (tr_l 124 (.aload_n 0, 1, 0, 0)) (tr_l 125 (.sipush 200, 3, 0, 0))) (tr_n 128 (tr_l 128 (.newarray .int, 2, 42, 0)) (tr_n 130 (tr_l 130 (.putfield 56, 3, 26, 9)) (tr_l 133 (.aload_n 0, 1, 0, 0))))) (tr_n 137 (tr_n 134 (tr_l 134 (.sipush 200, 3, 0, 0)) (tr_l 137 (.newarray .boolean, 2, 43, 0))) (tr_n 139 (tr_l 139 (.putfield 59, 3, 36, 9)) (tr_n 142 (tr_l 142 (.aload_n 0, 1, 0, 0)) (tr_l 143 (.sipush 200, 3, 0, 0)))))) (tr_n 154 (tr_n 148 (tr_n 146 (tr_l 146 (.newarray .boolean, 2, 44, 0)) (tr_l 148 (.putfield 62, 3, 37, 9))) (tr_n 151 (tr_l 151 (.aload_n 0, 1, 0, 0)) (tr_n 152 (tr_l 152 (.bipush 80, 2, 0, 0)) (tr_l 154 (.newarray .int, 2, 45, 0))))) (tr_n 160 (tr_n 156 (tr_l 156 (.putfield 65, 3, 38, 9)) (tr_n 159 (tr_l 159 (.aload_n 0, 1, 0, 0)) (tr_l 160 (.bipush 16, 2, 0, 0)))) (tr_n 162 (tr_l 162 (.newarray .int, 2, 46, 0)) (tr_n 164 (tr_l 164 (.putfield 68, 3, 40, 9)) (tr_l 167 (.return_, 1, 0, 0)))))))))
def c_M_put : Nat → Option eg_E := (tr_n 25 (tr_n 12 (tr_n 2 (tr_n 0 (tr_l 0 (.iload_n 1, 1, 0, 0)) (tr_n 1 (tr_l 1 (.iconst 0, 1, 0, 0)) (tr_l 2 (.sipush 255, 3, 0, 0)))) (tr_n 8 (tr_n 5 (tr_l 5 (.invokestatic 80, 3, 87, 0)) (tr_l 8 (.ifCond .ne 5, 3, 13, 0))) (tr_n 11 (tr_l 11 (.iconst (-1), 1, 0, 0)) (tr_l 12 (.ireturn, 1, 1, 0))))) (tr_n 17 (tr_n 13 (tr_l 13 (.aload_n 0, 1, 0, 0)) (tr_n 14 (tr_l 14 (.getfield 84, 3, 3, 9)) (tr_l 17 (.bipush 40, 2, 0, 0)))) (tr_n 22 (tr_n 19 (tr_l 19 (.if_icmp .ne 6, 3, 25, 0)) (tr_l 22 (.bipush (-3), 2, 0, 0))) (tr_n 24 (tr_l 24 (.ireturn, 1, 1, 0)) (tr_l 25 (.aload_n 0, 1, 0, 0)))))) (tr_n 36 (tr_n 30 (tr_n 26 (tr_l 26 (.getfield 7, 3, 0, 9)) (tr_n 29 (tr_l 29 (.aload_n 0, 1, 0, 0)) (tr_l 30 (.getfield 84, 3, 3, 9)))) (tr_n 34 (tr_n 33 (tr_l 33 (.iload_n 1, 1, 0, 0)) (tr_l 34 (.iastore, 1, 0, 0))) (tr_n 35 (tr_l 35 (.aload_n 0, 1, 0, 0)) (tr_l 36 (.dup, 1, 0, 0))))) (tr_n 41 (tr_n 37 (tr_l 37 (.getfield 84, 3, 3, 9)) (tr_n 40 (tr_l 40 (.iconst 1, 1, 0, 0)) (tr_l 41 (.iadd, 1, 0, 0)))) (tr_n 45 (tr_n 42 (tr_l 42 (.putfield 84, 3, 3, 9)) (tr_l 45 (.aload_n 0, 1, 0, 0))) (tr_n 46 (tr_l 46 (.getfield 84, 3, 3, 9)) (tr_l 49 (.ireturn, 1, 1, 0)))))))
def c_M_in : Nat → Option eg_E := (tr_n 6 (tr_n 1 (tr_n 0 (tr_l 0 (.iload_n 0, 1, 0, 0)) (tr_l 1 (.iload_n 1, 1, 0, 0))) (tr_n 2 (tr_l 2 (.if_icmp .lt 12, 3, 14, 0)) (tr_n 5 (tr_l 5 (.iload_n 0, 1, 0, 0)) (tr_l 6 (.iload_n 2, 1, 0, 0))))) (tr_n 10 (tr_n 7 (tr_l 7 (.if_icmp .gt 7, 3, 14, 0)) (tr_l 10 (.iconst 1, 1, 0, 0))) (tr_n 11 (tr_l 11 (.goto 4, 3, 15, 0)) (tr_n 14 (tr_l 14 (.iconst 0, 1, 0, 0)) (tr_l 15 (.ireturn, 1, 2, 0))))))
def c_M_line : Nat → Option eg_E := (tr_n 8 (tr_n 1 (tr_n 0 (tr_l 0 (.aload_n 0, 1, 0, 0)) (tr_l 1 (.invokevirtual 162, 3, 89, 9))) (tr_n 4 (tr_l 4 (.aload_n 0, 1, 0, 0)) (tr_n 5 (tr_l 5 (.invokevirtual 165, 3, 90, 9)) (tr_l 8 (.istore_n 1, 1, 0, 0))))) (tr_n 10 (tr_n 9 (tr_l 9 (.aload_n 0, 1, 0, 0)) (tr_l 10 (.iconst 0, 1, 0, 0))) (tr_n 11 (tr_l 11 (.putfield 84, 3, 3, 9)) (tr_n 14 (tr_l 14 (.iload_n 1, 1, 0, 0)) (tr_l 15 (.ireturn, 1, 1, 0))))))
def c_M_part : Nat → Option eg_E := (tr_n 64 (tr_n 32 (tr_n 12 (tr_n 5 (tr_n 1 (tr_n 0 (tr_l 0 (.aload_n 0, 1, 0, 0)) (tr_l 1 (.iconst 0, 1, 0, 0))) (tr_n 2 (tr_l 2 (.putfield 88, 3, 4, 9)) (tr_l 5 (.iconst 0, 1, 0, 0)))) (tr_n 7 (tr_n 6 (tr_l 6 (.istore_n 1, 1, 0, 0)) (tr_l 7 (.iload_n 1, 1, 0, 0))) (tr_n 8 (tr_l 8 (.aload_n 0, 1, 0, 0)) (tr_n 9 (tr_l 9 (.getfield 84, 3, 3, 9)) (tr_l 12 (.if_icmp .ge 20, 3, 32, 0)))))) (tr_n 20 (tr_n 16 (tr_n 15 (tr_l 15 (.aload_n 0, 1, 0, 0)) (tr_l 16 (.getfield 7, 3, 0, 9))) (tr_n 19 (tr_l 19 (.iload_n 1, 1, 0, 0)) (tr_l 20 (.iaload, 1, 0, 0)))) (tr_n 23 (tr_n 21 (tr_l 21 (.bipush 59, 2, 0, 0)) (tr_l 23 (.if_icmp .eq 9, 3, 32, 0))) (tr_n 26 (tr_l 26 (.iinc 1 1, 3, 0, 0)) (tr_n 29 (tr_l 29 (.goto (-22), 3, 7, 0)) (tr_l 32 (.iconst 0, 1, 0, 0))))))) (tr_n 45 (tr_n 36 (tr_n 34 (tr_n 33 (tr_l 33 (.istore_n 2, 1, 0, 0)) (tr_l 34 (.iload_n 2, 1, 0, 0))) (tr_n 35 (tr_l 35 (.iload_n 1, 1, 0, 0)) (tr_l 36 (.if_icmp .ge 97, 3, 133, 0)))) (tr_n 40 (tr_n 39 (tr_l 39 (.aload_n 0, 1, 0, 0)) (tr_l 40 (.getfield 7, 3, 0, 9))) (tr_n 43 (tr_l 43 (.iload_n 2, 1, 0, 0)) (tr_n 44 (tr_l 44 (.iaload, 1, 0, 0)) (tr_l 45 (.bipush 32, 2, 0, 0)))))) (tr_n 54 (tr_n 50 (tr_n 47 (tr_l 47 (.if_icmp .eq 14, 3, 61, 0)) (tr_l 50 (.aload_n 0, 1, 0, 0))) (tr_n 51 (tr_l 51 (.getfield 7, 3, 0, 9)) (tr_l 54 (.iload_n 2, 1, 0, 0)))) (tr_n 56 (tr_n 55 (tr_l 55 (.iaload, 1, 0, 0)) (tr_l 56 (.bipush 44, 2, 0, 0))) (tr_n 58 (tr_l 58 (.if_icmp .ne 9, 3, 67, 0)) (tr_n 61 (tr_l 61 (.iinc 2 1, 3, 0, 0)) (tr_l 64 (.goto (-30), 3, 34, 0)))))))) (tr_n 97 (tr_n 79 (tr_n 72 (tr_n 68 (tr_n 67 (tr_l 67 (.aload_n 0, 1, 0, 0)) (tr_l 68 (.getfield 13, 3, 1, 9))) (tr_n 71 (tr_l 71 (.aload_n 0, 1, 0, 0)) (tr_l 72 (.getfield 88, 3, 4, 9)))) (tr_n 76 (tr_n 75 (tr_l 75 (.iload_n 2, 1, 0, 0)) (tr_l 76 (.iastore, 1, 0, 0))) (tr_n 77 (tr_l 77 (.iload_n 2, 1, 0, 0)) (tr_n 78 (tr_l 78 (.iload_n 1, 1, 0, 0)) (tr_l 79 (.if_icmp .ge 31, 3, 110, 0)))))) (tr_n 87 (tr_n 83 (tr_n 82 (tr_l 82 (.aload_n 0, 1, 0, 0)) (tr_l 83 (.getfield 7, 3, 0, 9))) (tr_n 86 (tr_l 86 (.iload_n 2, 1, 0, 0)) (tr_l 87 (.iaload, 1, 0, 0)))) (tr_n 90 (tr_n 88 (tr_l 88 (.bipush 32, 2, 0, 0)) (tr_l 90 (.if_icmp .eq 20, 3, 110, 0))) (tr_n 93 (tr_l 93 (.aload_n 0, 1, 0, 0)) (tr_n 94 (tr_l 94 (.getfield 7, 3, 0, 9)) (tr_l 97 (.iload_n 2, 1, 0, 0))))))) (tr_n 115 (tr_n 104 (tr_n 99 (tr_n 98 (tr_l 98 (.iaload, 1, 0, 0)) (tr_l 99 (.bipush 44, 2, 0, 0))) (tr_n 101 (tr_l 101 (.if_icmp .eq 9, 3, 110, 0)) (tr_l 104 (.iinc 2 1, 3, 0, 0)))) (tr_n 110 (tr_n 107 (tr_l 107 (.goto (-30), 3, 77, 0)) (tr_l 110 (.aload_n 0, 1, 0, 0))) (tr_n 111 (tr_l 111 (.getfield 16, 3, 2, 9)) (tr_n 114 (tr_l 114 (.aload_n 0, 1, 0, 0)) (tr_l 115 (.getfield 88, 3, 4, 9)))))) (tr_n 122 (tr_n 119 (tr_n 118 (tr_l 118 (.iload_n 2, 1, 0, 0)) (tr_l 119 (.iastore, 1, 0, 0))) (tr_n 120 (tr_l 120 (.aload_n 0, 1, 0, 0)) (tr_n 121 (tr_l 121 (.dup, 1, 0, 0)) (tr_l 122 (.getfield 88, 3, 4, 9))))) (tr_n 126 (tr_n 125 (tr_l 125 (.iconst 1, 1, 0, 0)) (tr_l 126 (.iadd, 1, 0, 0))) (tr_n 127 (tr_l 127 (.putfield 88, 3, 4, 9)) (tr_n 130 (tr_l 130 (.goto (-96), 3, 34, 0)) (tr_l 133 (.return_, 1, 0, 0)))))))))
def c_M_lineRead : Nat → Option eg_E := (tr_n 119 (tr_n 57 (tr_n 28 (tr_n 12 (tr_n 7 (tr_n 1 (tr_n 0 (tr_l 0 (.aload_n 0, 1, 0, 0)) (tr_l 1 (.getfield 88, 3, 4, 9))) (tr_n 4 (tr_l 4 (.ifCond .ne 6, 3, 10, 0)) (tr_l 7 (.bipush (-4), 2, 0, 0)))) (tr_n 10 (tr_n 9 (tr_l 9 (.ireturn, 1, 1, 0)) (tr_l 10 (.aload_n 0, 1, 0, 0))) (tr_n 11 (tr_l 11 (.iconst 0, 1, 0, 0)) (tr_l 12 (.invokevirtual 133, 3, 91, 9))))) (tr_n 20 (tr_n 16 (tr_n 15 (tr_l 15 (.istore_n 1, 1, 0, 0)) (tr_l 16 (.aload_n 0, 1, 0, 0))) (tr_n 17 (tr_l 17 (.getfield 88, 3, 4, 9)) (tr_l 20 (.iconst 1, 1, 0, 0)))) (tr_n 24 (tr_n 21 (tr_l 21 (.if_icmp .ne 13, 3, 34, 0)) (tr_l 24 (.iload_n 1, 1, 0, 0))) (tr_n 25 (tr_l 25 (.ifCond .lt 9, 3, 34, 0)) (tr_l 28 (.aload_n 0, 1, 0, 0)))))) (tr_n 40 (tr_n 34 (tr_n 30 (tr_n 29 (tr_l 29 (.iload_n 1, 1, 0, 0)) (tr_l 30 (.invokevirtual 148, 3, 93, 9))) (tr_n 33 (tr_l 33 (.ireturn, 1, 1, 0)) (tr_l 34 (.aload_n 0, 1, 0, 0)))) (tr_n 36 (tr_n 35 (tr_l 35 (.aload_n 0, 1, 0, 0)) (tr_l 36 (.aload_n 0, 1, 0, 0))) (tr_n 37 (tr_l 37 (.getfield 13, 3, 1, 9)) (tr_l 40 (.iconst 0, 1, 0, 0))))) (tr_n 46 (tr_n 42 (tr_n 41 (tr_l 41 (.iaload, 1, 0, 0)) (tr_l 42 (.aload_n 0, 1, 0, 0))) (tr_n 43 (tr_l 43 (.getfield 16, 3, 2, 9)) (tr_l 46 (.iconst 0, 1, 0, 0)))) (tr_n 48 (tr_n 47 (tr_l 47 (.iaload, 1, 0, 0)) (tr_l 48 (.invokevirtual 91, 3, 92, 9))) (tr_n 51 (tr_l 51 (.invokestatic 151, 3, 96, 0)) (tr_n 54 (tr_l 54 (.putfield 99, 3, 16, 9)) (tr_l 57 (.aload_n 0, 1, 0, 0)))))))) (tr_n 88 (tr_n 72 (tr_n 66 (tr_n 61 (tr_n 58 (tr_l 58 (.getfield 99, 3, 16, 9)) (tr_l 61 (.ifCond .ge 6, 3, 67, 0))) (tr_n 64 (tr_l 64 (.bipush (-4), 2, 0, 0)) (tr_l 66 (.ireturn, 1, 1, 0)))) (tr_n 68 (tr_n 67 (tr_l 67 (.aload_n 0, 1, 0, 0)) (tr_l 68 (.invokevirtual 154, 3, 98, 9))) (tr_n 71 (tr_l 71 (.istore_n 2, 1, 0, 0)) (tr_l 72 (.iload_n 2, 1, 0, 0))))) (tr_n 79 (tr_n 76 (tr_n 73 (tr_l 73 (.ifCond .ne 6, 3, 79, 0)) (tr_l 76 (.bipush (-5), 2, 0, 0))) (tr_n 78 (tr_l 78 (.ireturn, 1, 1, 0)) (tr_l 79 (.aload_n 0, 1, 0, 0)))) (tr_n 83 (tr_n 80 (tr_l 80 (.getfield 145, 3, 12, 9)) (tr_l 83 (.bipush 40, 2, 0, 0))) (tr_n 85 (tr_l 85 (.if_icmp .eq 17, 3, 102, 0)) (tr_l 88 (.aload_n 0, 1, 0, 0)))))) (tr_n 104 (tr_n 96 (tr_n 92 (tr_n 89 (tr_l 89 (.getfield 136, 3, 15, 9)) (tr_l 92 (.aload_n 0, 1, 0, 0))) (tr_n 93 (tr_l 93 (.invokevirtual 158, 3, 105, 9)) (tr_l 96 (.iadd, 1, 0, 0)))) (tr_n 99 (tr_n 97 (tr_l 97 (.bipush 12, 2, 0, 0)) (tr_l 99 (.if_icmp .le 6, 3, 105, 0))) (tr_n 102 (tr_l 102 (.bipush (-3), 2, 0, 0)) (tr_l 104 (.ireturn, 1, 1, 0))))) (tr_n 110 (tr_n 106 (tr_n 105 (tr_l 105 (.aload_n 0, 1, 0, 0)) (tr_l 106 (.getfield 19, 3, 5, 9))) (tr_n 109 (tr_l 109 (.aload_n 0, 1, 0, 0)) (tr_l 110 (.getfield 145, 3, 12, 9)))) (tr_n 114 (tr_n 113 (tr_l 113 (.aload_n 0, 1, 0, 0)) (tr_l 114 (.getfield 99, 3, 16, 9))) (tr_n 117 (tr_l 117 (.iastore, 1, 0, 0)) (tr_n 118 (tr_l 118 (.aload_n 0, 1, 0, 0)) (tr_l 119 (.getfield 22, 3, 6, 9))))))))) (tr_n 182 (tr_n 149 (tr_n 135 (tr_n 127 (tr_n 123 (tr_n 122 (tr_l 122 (.aload_n 0, 1, 0, 0)) (tr_l 123 (.getfield 145, 3, 12, 9))) (tr_n 126 (tr_l 126 (.aload_n 0, 1, 0, 0)) (tr_l 127 (.getfield 114, 3, 17, 9)))) (tr_n 131 (tr_n 130 (tr_l 130 (.iastore, 1, 0, 0)) (tr_l 131 (.aload_n 0, 1, 0, 0))) (tr_n 132 (tr_l 132 (.getfield 25, 3, 7, 9)) (tr_l 135 (.aload_n 0, 1, 0, 0))))) (tr_n 143 (tr_n 139 (tr_n 136 (tr_l 136 (.getfield 145, 3, 12, 9)) (tr_l 139 (.aload_n 0, 1, 0, 0))) (tr_n 140 (tr_l 140 (.getfield 117, 3, 18, 9)) (tr_l 143 (.iastore, 1, 0, 0)))) (tr_n 145 (tr_n 144 (tr_l 144 (.aload_n 0, 1, 0, 0)) (tr_l 145 (.getfield 28, 3, 8, 9))) (tr_n 148 (tr_l 148 (.aload_n 0, 1, 0, 0)) (tr_l 149 (.getfield 145, 3, 12, 9)))))) (tr_n 165 (tr_n 157 (tr_n 153 (tr_n 152 (tr_l 152 (.aload_n 0, 1, 0, 0)) (tr_l 153 (.getfield 120, 3, 19, 9))) (tr_n 156 (tr_l 156 (.iastore, 1, 0, 0)) (tr_l 157 (.aload_n 0, 1, 0, 0)))) (tr_n 161 (tr_n 158 (tr_l 158 (.getfield 31, 3, 9, 9)) (tr_l 161 (.aload_n 0, 1, 0, 0))) (tr_n 162 (tr_l 162 (.getfield 145, 3, 12, 9)) (tr_l 165 (.aload_n 0, 1, 0, 0))))) (tr_n 171 (tr_n 169 (tr_n 166 (tr_l 166 (.getfield 123, 3, 20, 9)) (tr_l 169 (.iastore, 1, 0, 0))) (tr_n 170 (tr_l 170 (.aload_n 0, 1, 0, 0)) (tr_l 171 (.getfield 34, 3, 10, 9)))) (tr_n 175 (tr_n 174 (tr_l 174 (.aload_n 0, 1, 0, 0)) (tr_l 175 (.getfield 145, 3, 12, 9))) (tr_n 178 (tr_l 178 (.aload_n 0, 1, 0, 0)) (tr_n 179 (tr_l 179 (.getfield 130, 3, 21, 9)) (tr_l 182 (.iastore, 1, 0, 0)))))))) (tr_n 207 (tr_n 194 (tr_n 186 (tr_n 184 (tr_n 183 (tr_l 183 (.iconst 0, 1, 0, 0)) (tr_l 184 (.istore_n 3, 1, 0, 0))) (tr_n 185 (tr_l 185 (.iload_n 3, 1, 0, 0)) (tr_l 186 (.aload_n 0, 1, 0, 0)))) (tr_n 190 (tr_n 187 (tr_l 187 (.getfield 130, 3, 21, 9)) (tr_l 190 (.if_icmp .ge 32, 3, 222, 0))) (tr_n 193 (tr_l 193 (.aload_n 0, 1, 0, 0)) (tr_l 194 (.getfield 37, 3, 11, 9))))) (tr_n 202 (tr_n 198 (tr_n 197 (tr_l 197 (.iconst 4, 1, 0, 0)) (tr_l 198 (.aload_n 0, 1, 0, 0))) (tr_n 199 (tr_l 199 (.getfield 145, 3, 12, 9)) (tr_l 202 (.imul, 1, 0, 0)))) (tr_n 204 (tr_n 203 (tr_l 203 (.iload_n 3, 1, 0, 0)) (tr_l 204 (.iadd, 1, 0, 0))) (tr_n 205 (tr_l 205 (.aload_n 0, 1, 0, 0)) (tr_n 206 (tr_l 206 (.aload_n 0, 1, 0, 0)) (tr_l 207 (.getfield 46, 3, 22, 9))))))) (tr_n 223 (tr_n 215 (tr_n 211 (tr_n 210 (tr_l 210 (.iload_n 3, 1, 0, 0)) (tr_l 211 (.iaload, 1, 0, 0))) (tr_n 212 (tr_l 212 (.invokevirtual 142, 3, 95, 9)) (tr_l 215 (.iastore, 1, 0, 0)))) (tr_n 219 (tr_n 216 (tr_l 216 (.iinc 3 1, 3, 0, 0)) (tr_l 219 (.goto (-34), 3, 185, 0))) (tr_n 222 (tr_l 222 (.aload_n 0, 1, 0, 0)) (tr_l 223 (.dup, 1, 0, 0))))) (tr_n 229 (tr_n 227 (tr_n 224 (tr_l 224 (.getfield 145, 3, 12, 9)) (tr_l 227 (.iconst 1, 1, 0, 0))) (tr_n 228 (tr_l 228 (.iadd, 1, 0, 0)) (tr_l 229 (.putfield 145, 3, 12, 9)))) (tr_n 233 (tr_n 232 (tr_l 232 (.aload_n 0, 1, 0, 0)) (tr_l 233 (.getfield 145, 3, 12, 9))) (tr_n 236 (tr_l 236 (.iconst 1, 1, 0, 0)) (tr_n 237 (tr_l 237 (.isub, 1, 0, 0)) (tr_l 238 (.ireturn, 1, 1, 0))))))))))
def c_M_labelIn : Nat → Option eg_E := (tr_n 18 (tr_n 9 (tr_n 4 (tr_n 0 (tr_l 0 (.aload_n 0, 1, 0, 0)) (tr_n 1 (tr_l 1 (.getfield 7, 3, 0, 9)) (tr_l 4 (.aload_n 0, 1, 0, 0)))) (tr_n 5 (tr_l 5 (.getfield 13, 3, 1, 9)) (tr_n 8 (tr_l 8 (.iload_n 1, 1, 0, 0)) (tr_l 9 (.iaload, 1, 0, 0))))) (tr_n 13 (tr_n 10 (tr_l 10 (.iaload, 1, 0, 0)) (tr_n 11 (tr_l 11 (.bipush 58, 2, 0, 0)) (tr_l 13 (.if_icmp .ne 24, 3, 37, 0)))) (tr_n 16 (tr_l 16 (.aload_n 0, 1, 0, 0)) (tr_n 17 (tr_l 17 (.aload_n 0, 1, 0, 0)) (tr_l 18 (.getfield 13, 3, 1, 9)))))) (tr_n 26 (tr_n 23 (tr_n 21 (tr_l 21 (.iload_n 1, 1, 0, 0)) (tr_n 22 (tr_l 22 (.iaload, 1, 0, 0)) (tr_l 23 (.iconst 1, 1, 0, 0)))) (tr_n 24 (tr_l 24 (.iadd, 1, 0, 0)) (tr_n 25 (tr_l 25 (.aload_n 0, 1, 0, 0)) (tr_l 26 (.getfield 16, 3, 2, 9))))) (tr_n 31 (tr_n 29 (tr_l 29 (.iload_n 1, 1, 0, 0)) (tr_n 30 (tr_l 30 (.iaload, 1, 0, 0)) (tr_l 31 (.invokevirtual 91, 3, 92, 9)))) (tr_n 34 (tr_l 34 (.goto 4, 3, 38, 0)) (tr_n 37 (tr_l 37 (.iconst (-1), 1, 0, 0)) (tr_l 38 (.ireturn, 1, 1, 0)))))))
def c_M_letters : Nat → Option eg_E := (tr_n 32 (tr_n 12 (tr_n 4 (tr_n 1 (tr_n 0 (tr_l 0 (.iconst 0, 1, 0, 0)) (tr_l 1 (.istore_n 3, 1, 0, 0))) (tr_n 2 (tr_l 2 (.iload_n 1, 1, 0, 0)) (tr_n 3 (tr_l 3 (.iload_n 2, 1, 0, 0)) (tr_l 4 (.if_icmp .eq 11, 3, 15, 0))))) (tr_n 8 (tr_n 7 (tr_l 7 (.iload_n 2, 1, 0, 0)) (tr_l 8 (.iload_n 1, 1, 0, 0))) (tr_n 9 (tr_l 9 (.isub, 1, 0, 0)) (tr_n 10 (tr_l 10 (.bipush 6, 2, 0, 0)) (tr_l 12 (.if_icmp .le 5, 3, 17, 0)))))) (tr_n 20 (tr_n 16 (tr_n 15 (tr_l 15 (.iconst (-1), 1, 0, 0)) (tr_l 16 (.ireturn, 1, 1, 0))) (tr_n 17 (tr_l 17 (.iload_n 1, 1, 0, 0)) (tr_n 18 (tr_l 18 (.istore 4, 2, 0, 0)) (tr_l 20 (.iload 4, 2, 0, 0))))) (tr_n 26 (tr_n 22 (tr_l 22 (.iload_n 2, 1, 0, 0)) (tr_n 23 (tr_l 23 (.if_icmp .ge 44, 3, 67, 0)) (tr_l 26 (.aload_n 0, 1, 0, 0)))) (tr_n 27 (tr_l 27 (.getfield 7, 3, 0, 9)) (tr_n 30 (tr_l 30 (.iload 4, 2, 0, 0)) (tr_l 32 (.iaload, 1, 0, 0))))))) (tr_n 49 (tr_n 43 (tr_n 35 (tr_n 33 (tr_l 33 (.bipush 97, 2, 0, 0)) (tr_l 35 (.bipush 122, 2, 0, 0))) (tr_n 37 (tr_l 37 (.invokestatic 80, 3, 87, 0)) (tr_n 40 (tr_l 40 (.ifCond .ne 5, 3, 45, 0)) (tr_l 43 (.iconst (-1), 1, 0, 0))))) (tr_n 45 (tr_n 44 (tr_l 44 (.ireturn, 1, 1, 0)) (tr_l 45 (.bipush 27, 2, 0, 0))) (tr_n 47 (tr_l 47 (.iload_n 3, 1, 0, 0)) (tr_n 48 (tr_l 48 (.imul, 1, 0, 0)) (tr_l 49 (.aload_n 0, 1, 0, 0)))))) (tr_n 57 (tr_n 53 (tr_n 50 (tr_l 50 (.getfield 7, 3, 0, 9)) (tr_l 53 (.iload 4, 2, 0, 0))) (tr_n 55 (tr_l 55 (.iaload, 1, 0, 0)) (tr_n 56 (tr_l 56 (.iadd, 1, 0, 0)) (tr_l 57 (.bipush 96, 2, 0, 0))))) (tr_n 61 (tr_n 59 (tr_l 59 (.isub, 1, 0, 0)) (tr_n 60 (tr_l 60 (.istore_n 3, 1, 0, 0)) (tr_l 61 (.iinc 4 1, 3, 0, 0)))) (tr_n 64 (tr_l 64 (.goto (-44), 3, 20, 0)) (tr_n 67 (tr_l 67 (.iload_n 3, 1, 0, 0)) (tr_l 68 (.ireturn, 1, 1, 0))))))))
def c_M_setLabel : Nat → Option eg_E := (tr_n 30 (tr_n 14 (tr_n 5 (tr_n 1 (tr_n 0 (tr_l 0 (.aload_n 0, 1, 0, 0)) (tr_l 1 (.iload_n 1, 1, 0, 0))) (tr_n 2 (tr_l 2 (.invokevirtual 139, 3, 94, 9)) (tr_l 5 (.istore_n 2, 1, 0, 0)))) (tr_n 7 (tr_n 6 (tr_l 6 (.iload_n 2, 1, 0, 0)) (tr_l 7 (.ifCond .lt 15, 3, 22, 0))) (tr_n 10 (tr_l 10 (.aload_n 0, 1, 0, 0)) (tr_n 11 (tr_l 11 (.getfield 43, 3, 14, 9)) (tr_l 14 (.iload_n 2, 1, 0, 0)))))) (tr_n 21 (tr_n 16 (tr_n 15 (tr_l 15 (.iaload, 1, 0, 0)) (tr_l 16 (.ifCond .lt 6, 3, 22, 0))) (tr_n 19 (tr_l 19 (.bipush (-6), 2, 0, 0)) (tr_l 21 (.ireturn, 1, 1, 0)))) (tr_n 23 (tr_n 22 (tr_l 22 (.iload_n 2, 1, 0, 0)) (tr_l 23 (.ifCond .ge 15, 3, 38, 0))) (tr_n 26 (tr_l 26 (.aload_n 0, 1, 0, 0)) (tr_n 27 (tr_l 27 (.getfield 136, 3, 15, 9)) (tr_l 30 (.bipush 12, 2, 0, 0))))))) (tr_n 45 (tr_n 38 (tr_n 35 (tr_n 32 (tr_l 32 (.if_icmp .ne 6, 3, 38, 0)) (tr_l 35 (.bipush (-3), 2, 0, 0))) (tr_n 37 (tr_l 37 (.ireturn, 1, 1, 0)) (tr_l 38 (.aload_n 0, 1, 0, 0)))) (tr_n 40 (tr_n 39 (tr_l 39 (.iload_n 1, 1, 0, 0)) (tr_l 40 (.invokevirtual 142, 3, 95, 9))) (tr_n 43 (tr_l 43 (.istore_n 2, 1, 0, 0)) (tr_n 44 (tr_l 44 (.aload_n 0, 1, 0, 0)) (tr_l 45 (.getfield 43, 3, 14, 9)))))) (tr_n 53 (tr_n 49 (tr_n 48 (tr_l 48 (.iload_n 2, 1, 0, 0)) (tr_l 49 (.aload_n 0, 1, 0, 0))) (tr_n 50 (tr_l 50 (.getfield 145, 3, 12, 9)) (tr_l 53 (.iastore, 1, 0, 0)))) (tr_n 56 (tr_n 54 (tr_l 54 (.bipush 100, 2, 0, 0)) (tr_l 56 (.aload_n 0, 1, 0, 0))) (tr_n 57 (tr_l 57 (.getfield 136, 3, 15, 9)) (tr_n 60 (tr_l 60 (.iadd, 1, 0, 0)) (tr_l 61 (.ireturn, 1, 1, 0))))))))
def c_M_find : Nat → Option eg_E := (tr_n 14 (tr_n 3 (tr_n 1 (tr_n 0 (tr_l 0 (.iconst 0, 1, 0, 0)) (tr_l 1 (.istore_n 2, 1, 0, 0))) (tr_n 2 (tr_l 2 (.iload_n 2, 1, 0, 0)) (tr_l 3 (.aload_n 0, 1, 0, 0)))) (tr_n 7 (tr_n 4 (tr_l 4 (.getfield 136, 3, 15, 9)) (tr_l 7 (.if_icmp .ge 21, 3, 28, 0))) (tr_n 10 (tr_l 10 (.aload_n 0, 1, 0, 0)) (tr_n 11 (tr_l 11 (.getfield 40, 3, 13, 9)) (tr_l 14 (.iload_n 2, 1, 0, 0)))))) (tr_n 20 (tr_n 16 (tr_n 15 (tr_l 15 (.iaload, 1, 0, 0)) (tr_l 16 (.iload_n 1, 1, 0, 0))) (tr_n 17 (tr_l 17 (.if_icmp .ne 5, 3, 22, 0)) (tr_l 20 (.iload_n 2, 1, 0, 0)))) (tr_n 22 (tr_n 21 (tr_l 21 (.ireturn, 1, 1, 0)) (tr_l 22 (.iinc 2 1, 3, 0, 0))) (tr_n 25 (tr_l 25 (.goto (-23), 3, 2, 0)) (tr_n 28 (tr_l 28 (.iconst (-1), 1, 0, 0)) (tr_l 29 (.ireturn, 1, 1, 0)))))))
def c_M_named : Nat → Option eg_E := (tr_n 22 (tr_n 10 (tr_n 2 (tr_n 0 (tr_l 0 (.aload_n 0, 1, 0, 0)) (tr_n 1 (tr_l 1 (.iload_n 1, 1, 0, 0)) (tr_l 2 (.invokevirtual 139, 3, 94, 9)))) (tr_n 6 (tr_n 5 (tr_l 5 (.istore_n 2, 1, 0, 0)) (tr_l 6 (.iload_n 2, 1, 0, 0))) (tr_n 7 (tr_l 7 (.ifCond .lt 5, 3, 12, 0)) (tr_l 10 (.iload_n 2, 1, 0, 0))))) (tr_n 16 (tr_n 12 (tr_n 11 (tr_l 11 (.ireturn, 1, 1, 0)) (tr_l 12 (.aload_n 0, 1, 0, 0))) (tr_n 13 (tr_l 13 (.getfield 40, 3, 13, 9)) (tr_l 16 (.aload_n 0, 1, 0, 0)))) (tr_n 20 (tr_n 17 (tr_l 17 (.getfield 136, 3, 15, 9)) (tr_l 20 (.iload_n 1, 1, 0, 0))) (tr_n 21 (tr_l 21 (.iastore, 1, 0, 0)) (tr_l 22 (.aload_n 0, 1, 0, 0)))))) (tr_n 34 (tr_n 30 (tr_n 26 (tr_n 23 (tr_l 23 (.getfield 43, 3, 14, 9)) (tr_l 26 (.aload_n 0, 1, 0, 0))) (tr_n 27 (tr_l 27 (.getfield 136, 3, 15, 9)) (tr_l 30 (.iconst (-1), 1, 0, 0)))) (tr_n 32 (tr_n 31 (tr_l 31 (.iastore, 1, 0, 0)) (tr_l 32 (.aload_n 0, 1, 0, 0))) (tr_n 33 (tr_l 33 (.dup, 1, 0, 0)) (tr_l 34 (.getfield 136, 3, 15, 9))))) (tr_n 42 (tr_n 38 (tr_n 37 (tr_l 37 (.iconst 1, 1, 0, 0)) (tr_l 38 (.iadd, 1, 0, 0))) (tr_n 39 (tr_l 39 (.putfield 136, 3, 15, 9)) (tr_l 42 (.aload_n 0, 1, 0, 0)))) (tr_n 46 (tr_n 43 (tr_l 43 (.getfield 136, 3, 15, 9)) (tr_l 46 (.iconst 1, 1, 0, 0))) (tr_n 47 (tr_l 47 (.isub, 1, 0, 0)) (tr_l 48 (.ireturn, 1, 1, 0)))))))
def c_M_opNamed : Nat → Option eg_E := (tr_n 13 (tr_n 3 (tr_n 1 (tr_n 0 (tr_l 0 (.iconst 0, 1, 0, 0)) (tr_l 1 (.istore_n 1, 1, 0, 0))) (tr_n 2 (tr_l 2 (.iload_n 1, 1, 0, 0)) (tr_l 3 (.sipush 256, 3, 0, 0)))) (tr_n 9 (tr_n 6 (tr_l 6 (.if_icmp .gt 23, 3, 29, 0)) (tr_l 9 (.iload_n 1, 1, 0, 0))) (tr_n 10 (tr_l 10 (.invokestatic 76, 3, 97, 0)) (tr_l 13 (.iload_n 0, 1, 0, 0))))) (tr_n 21 (tr_n 17 (tr_n 14 (tr_l 14 (.if_icmp .ne 9, 3, 23, 0)) (tr_l 17 (.iload_n 0, 1, 0, 0))) (tr_n 18 (tr_l 18 (.ifCond .le 5, 3, 23, 0)) (tr_l 21 (.iload_n 1, 1, 0, 0)))) (tr_n 23 (tr_n 22 (tr_l 22 (.ireturn, 1, 1, 0)) (tr_l 23 (.iinc 1 1, 3, 0, 0))) (tr_n 26 (tr_l 26 (.goto (-24), 3, 2, 0)) (tr_n 29 (tr_l 29 (.iconst (-1), 1, 0, 0)) (tr_l 30 (.ireturn, 1, 1, 0)))))))
def c_M_nameOf : Nat → Option eg_E := (tr_n 149 (tr_n 134 (tr_n 127 (tr_n 1 (tr_n 0 (tr_l 0 (.iload_n 0, 1, 0, 0)) (tr_l 1 (.lookupswitch 174 #[(0, 123), (1, 127), (15, 130), (18, 134), (40, 153), (43, 168), (50, 156), (51, 160), (56, 164), (144, 137), (145, 141), (146, 145), (216, 149), (256, 171)], 123, 0, 0))) (tr_n 124 (tr_l 124 (.sipush 10627, 3, 0, 0)) (tr_l 127 (.ireturn, 1, 1, 0)))) (tr_n 130 (tr_n 128 (tr_l 128 (.ldc 71, 2, 267413, 0)) (tr_l 130 (.ireturn, 1, 1, 0))) (tr_n 131 (tr_l 131 (.sipush 13277, 3, 0, 0)) (tr_l 134 (.ireturn, 1, 1, 0))))) (tr_n 141 (tr_n 137 (tr_n 135 (tr_l 135 (.ldc 72, 2, 1900307, 0)) (tr_l 137 (.ireturn, 1, 1, 0))) (tr_n 138 (tr_l 138 (.sipush 841, 3, 0, 0)) (tr_l 141 (.ireturn, 1, 1, 0)))) (tr_n 145 (tr_n 142 (tr_l 142 (.sipush 14420, 3, 0, 0)) (tr_l 145 (.ireturn, 1, 1, 0))) (tr_n 146 (tr_l 146 (.sipush 10056, 3, 0, 0)) (tr_l 149 (.ireturn, 1, 1, 0)))))) (tr_n 164 (tr_n 156 (tr_n 153 (tr_n 150 (tr_l 150 (.sipush 22716, 3, 0, 0)) (tr_l 153 (.ireturn, 1, 1, 0))) (tr_n 154 (tr_l 154 (.ldc 73, 2, 212506, 0)) (tr_l 156 (.ireturn, 1, 1, 0)))) (tr_n 160 (tr_n 157 (tr_l 157 (.sipush 7442, 3, 0, 0)) (tr_l 160 (.ireturn, 1, 1, 0))) (tr_n 161 (tr_l 161 (.sipush 7634, 3, 0, 0)) (tr_l 164 (.ireturn, 1, 1, 0))))) (tr_n 171 (tr_n 168 (tr_n 165 (tr_l 165 (.sipush 296, 3, 0, 0)) (tr_l 168 (.ireturn, 1, 1, 0))) (tr_n 169 (tr_l 169 (.ldc 74, 2, 10650290, 0)) (tr_l 171 (.ireturn, 1, 1, 0)))) (tr_n 174 (tr_n 172 (tr_l 172 (.ldc 75, 2, 1628011, 0)) (tr_l 174 (.ireturn, 1, 1, 0))) (tr_n 175 (tr_l 175 (.iconst 0, 1, 0, 0)) (tr_l 176 (.ireturn, 1, 1, 0)))))))
def c_M_readLine : Nat → Option eg_E := (tr_n 117 (tr_n 54 (tr_n 27 (tr_n 15 (tr_n 7 (tr_n 1 (tr_n 0 (tr_l 0 (.aload_n 0, 1, 0, 0)) (tr_l 1 (.getfield 99, 3, 16, 9))) (tr_n 4 (tr_l 4 (.invokestatic 102, 3, 99, 0)) (tr_l 7 (.istore_n 1, 1, 0, 0)))) (tr_n 9 (tr_n 8 (tr_l 8 (.aload_n 0, 1, 0, 0)) (tr_l 9 (.getfield 99, 3, 16, 9))) (tr_n 12 (tr_l 12 (.invokestatic 105, 3, 100, 0)) (tr_l 15 (.istore_n 2, 1, 0, 0))))) (tr_n 23 (tr_n 17 (tr_n 16 (tr_l 16 (.aload_n 0, 1, 0, 0)) (tr_l 17 (.getfield 99, 3, 16, 9))) (tr_n 20 (tr_l 20 (.invokestatic 108, 3, 101, 0)) (tr_l 23 (.istore_n 3, 1, 0, 0)))) (tr_n 25 (tr_n 24 (tr_l 24 (.iconst 1, 1, 0, 0)) (tr_l 25 (.iload_n 1, 1, 0, 0))) (tr_n 26 (tr_l 26 (.iadd, 1, 0, 0)) (tr_l 27 (.istore 4, 2, 0, 0)))))) (tr_n 42 (tr_n 34 (tr_n 30 (tr_n 29 (tr_l 29 (.aload_n 0, 1, 0, 0)) (tr_l 30 (.iload_n 1, 1, 0, 0))) (tr_n 31 (tr_l 31 (.ifCond .le 11, 3, 42, 0)) (tr_l 34 (.aload_n 0, 1, 0, 0)))) (tr_n 36 (tr_n 35 (tr_l 35 (.iconst 1, 1, 0, 0)) (tr_l 36 (.invokevirtual 111, 3, 102, 9))) (tr_n 39 (tr_l 39 (.goto 4, 3, 43, 0)) (tr_l 42 (.iconst 0, 1, 0, 0))))) (tr_n 48 (tr_n 46 (tr_n 43 (tr_l 43 (.putfield 114, 3, 17, 9)) (tr_l 46 (.aload_n 0, 1, 0, 0))) (tr_n 47 (tr_l 47 (.iload_n 1, 1, 0, 0)) (tr_l 48 (.iconst 1, 1, 0, 0)))) (tr_n 52 (tr_n 49 (tr_l 49 (.if_icmp .le 11, 3, 60, 0)) (tr_l 52 (.aload_n 0, 1, 0, 0))) (tr_n 53 (tr_l 53 (.iconst 2, 1, 0, 0)) (tr_l 54 (.invokevirtual 111, 3, 102, 9))))))) (tr_n 86 (tr_n 70 (tr_n 64 (tr_n 60 (tr_n 57 (tr_l 57 (.goto 4, 3, 61, 0)) (tr_l 60 (.iconst 0, 1, 0, 0))) (tr_n 61 (tr_l 61 (.putfield 117, 3, 18, 9)) (tr_l 64 (.aload_n 0, 1, 0, 0)))) (tr_n 66 (tr_n 65 (tr_l 65 (.iload_n 1, 1, 0, 0)) (tr_l 66 (.iconst 2, 1, 0, 0))) (tr_n 67 (tr_l 67 (.if_icmp .le 11, 3, 78, 0)) (tr_l 70 (.aload_n 0, 1, 0, 0))))) (tr_n 78 (tr_n 72 (tr_n 71 (tr_l 71 (.iconst 3, 1, 0, 0)) (tr_l 72 (.invokevirtual 111, 3, 102, 9))) (tr_n 75 (tr_l 75 (.goto 4, 3, 79, 0)) (tr_l 78 (.iconst 0, 1, 0, 0)))) (tr_n 82 (tr_n 79 (tr_l 79 (.putfield 120, 3, 19, 9)) (tr_l 82 (.aload_n 0, 1, 0, 0))) (tr_n 83 (tr_l 83 (.getfield 114, 3, 17, 9)) (tr_l 86 (.ifCond .lt 17, 3, 103, 0)))))) (tr_n 104 (tr_n 96 (tr_n 90 (tr_n 89 (tr_l 89 (.aload_n 0, 1, 0, 0)) (tr_l 90 (.getfield 117, 3, 18, 9))) (tr_n 93 (tr_l 93 (.ifCond .lt 10, 3, 103, 0)) (tr_l 96 (.aload_n 0, 1, 0, 0)))) (tr_n 100 (tr_n 97 (tr_l 97 (.getfield 120, 3, 19, 9)) (tr_l 100 (.ifCond .ge 5, 3, 105, 0))) (tr_n 103 (tr_l 103 (.iconst 0, 1, 0, 0)) (tr_l 104 (.ireturn, 1, 2, 0))))) (tr_n 110 (tr_n 106 (tr_n 105 (tr_l 105 (.aload_n 0, 1, 0, 0)) (tr_l 106 (.iconst 0, 1, 0, 0))) (tr_n 107 (tr_l 107 (.putfield 123, 3, 20, 9)) (tr_l 110 (.iload_n 2, 1, 0, 0)))) (tr_n 114 (tr_n 111 (tr_l 111 (.ifCond .le 40, 3, 151, 0)) (tr_l 114 (.aload_n 0, 1, 0, 0))) (tr_n 115 (tr_l 115 (.iload_n 2, 1, 0, 0)) (tr_n 116 (tr_l 116 (.iconst 1, 1, 0, 0)) (tr_l 117 (.if_icmp .ne 18, 3, 135, 0))))))))) (tr_n 187 (tr_n 153 (tr_n 136 (tr_n 126 (tr_n 121 (tr_n 120 (tr_l 120 (.aload_n 0, 1, 0, 0)) (tr_l 121 (.iload 4, 2, 0, 0))) (tr_n 123 (tr_l 123 (.sipush (-32768), 3, 0, 0)) (tr_l 126 (.sipush 32767, 3, 0, 0)))) (tr_n 132 (tr_n 129 (tr_l 129 (.invokevirtual 126, 3, 104, 9)) (tr_l 132 (.goto 13, 3, 145, 0))) (tr_n 135 (tr_l 135 (.aload_n 0, 1, 0, 0)) (tr_l 136 (.iload 4, 2, 0, 0))))) (tr_n 145 (tr_n 140 (tr_n 138 (tr_l 138 (.bipush (-128), 2, 0, 0)) (tr_l 140 (.bipush 127, 2, 0, 0))) (tr_n 142 (tr_l 142 (.invokevirtual 126, 3, 104, 9)) (tr_l 145 (.putfield 123, 3, 20, 9)))) (tr_n 151 (tr_n 148 (tr_l 148 (.iinc 4 1, 3, 0, 0)) (tr_l 151 (.aload_n 0, 1, 0, 0))) (tr_n 152 (tr_l 152 (.aload_n 0, 1, 0, 0)) (tr_l 153 (.getfield 88, 3, 4, 9)))))) (tr_n 171 (tr_n 162 (tr_n 158 (tr_n 156 (tr_l 156 (.iload 4, 2, 0, 0)) (tr_l 158 (.isub, 1, 0, 0))) (tr_n 159 (tr_l 159 (.putfield 130, 3, 21, 9)) (tr_l 162 (.aload_n 0, 1, 0, 0)))) (tr_n 166 (tr_n 163 (tr_l 163 (.getfield 123, 3, 20, 9)) (tr_l 166 (.ldc 98, 2, 99999999, 0))) (tr_n 168 (tr_l 168 (.if_icmp .eq 31, 3, 199, 0)) (tr_l 171 (.iload_n 3, 1, 0, 0))))) (tr_n 179 (tr_n 175 (tr_n 172 (tr_l 172 (.ifCond .lt 11, 3, 183, 0)) (tr_l 175 (.aload_n 0, 1, 0, 0))) (tr_n 176 (tr_l 176 (.getfield 130, 3, 21, 9)) (tr_l 179 (.iload_n 3, 1, 0, 0)))) (tr_n 183 (tr_n 180 (tr_l 180 (.if_icmp .ne 19, 3, 199, 0)) (tr_l 183 (.iload_n 3, 1, 0, 0))) (tr_n 184 (tr_l 184 (.ifCond .ge 17, 3, 201, 0)) (tr_l 187 (.aload_n 0, 1, 0, 0))))))) (tr_n 217 (tr_n 201 (tr_n 193 (tr_n 191 (tr_n 188 (tr_l 188 (.getfield 130, 3, 21, 9)) (tr_l 191 (.iconst 1, 1, 0, 0))) (tr_n 192 (tr_l 192 (.iconst 4, 1, 0, 0)) (tr_l 193 (.invokestatic 80, 3, 87, 0)))) (tr_n 199 (tr_n 196 (tr_l 196 (.ifCond .ne 5, 3, 201, 0)) (tr_l 199 (.iconst 0, 1, 0, 0))) (tr_n 200 (tr_l 200 (.ireturn, 1, 2, 0)) (tr_l 201 (.iconst 0, 1, 0, 0))))) (tr_n 207 (tr_n 204 (tr_n 202 (tr_l 202 (.istore 5, 2, 0, 0)) (tr_l 204 (.iload 5, 2, 0, 0))) (tr_n 206 (tr_l 206 (.aload_n 0, 1, 0, 0)) (tr_l 207 (.getfield 130, 3, 21, 9)))) (tr_n 213 (tr_n 210 (tr_l 210 (.if_icmp .ge 37, 3, 247, 0)) (tr_l 213 (.aload_n 0, 1, 0, 0))) (tr_n 214 (tr_l 214 (.getfield 46, 3, 22, 9)) (tr_l 217 (.iload 5, 2, 0, 0)))))) (tr_n 230 (tr_n 224 (tr_n 220 (tr_n 219 (tr_l 219 (.aload_n 0, 1, 0, 0)) (tr_l 220 (.iload 4, 2, 0, 0))) (tr_n 222 (tr_l 222 (.iload 5, 2, 0, 0)) (tr_l 224 (.iadd, 1, 0, 0)))) (tr_n 228 (tr_n 225 (tr_l 225 (.invokevirtual 133, 3, 91, 9)) (tr_l 228 (.iastore, 1, 0, 0))) (tr_n 229 (tr_l 229 (.aload_n 0, 1, 0, 0)) (tr_l 230 (.getfield 46, 3, 22, 9))))) (tr_n 239 (tr_n 235 (tr_n 233 (tr_l 233 (.iload 5, 2, 0, 0)) (tr_l 235 (.iaload, 1, 0, 0))) (tr_n 236 (tr_l 236 (.ifCond .ge 5, 3, 241, 0)) (tr_l 239 (.iconst 0, 1, 0, 0)))) (tr_n 241 (tr_n 240 (tr_l 240 (.ireturn, 1, 2, 0)) (tr_l 241 (.iinc 5 1, 3, 0, 0))) (tr_n 244 (tr_l 244 (.goto (-40), 3, 204, 0)) (tr_n 247 (tr_l 247 (.iconst 1, 1, 0, 0)) (tr_l 248 (.ireturn, 1, 2, 0))))))))))
def c_M_registersOf : Nat → Option eg_E := (tr_n 39 (tr_n 18 (tr_n 7 (tr_n 1 (tr_n 0 (tr_l 0 (.iload_n 0, 1, 0, 0)) (tr_l 1 (.ifCond .eq 16, 3, 17, 0))) (tr_n 4 (tr_l 4 (.iload_n 0, 1, 0, 0)) (tr_n 5 (tr_l 5 (.bipush 40, 2, 0, 0)) (tr_l 7 (.if_icmp .eq 10, 3, 17, 0))))) (tr_n 11 (tr_n 10 (tr_l 10 (.iload_n 0, 1, 0, 0)) (tr_l 11 (.sipush 256, 3, 0, 0))) (tr_n 14 (tr_l 14 (.if_icmp .ne 7, 3, 21, 0)) (tr_n 17 (tr_l 17 (.iconst 0, 1, 0, 0)) (tr_l 18 (.goto 60, 3, 78, 0)))))) (tr_n 28 (tr_n 22 (tr_n 21 (tr_l 21 (.iload_n 0, 1, 0, 0)) (tr_l 22 (.bipush 15, 2, 0, 0))) (tr_n 24 (tr_l 24 (.if_icmp .eq 21, 3, 45, 0)) (tr_n 27 (tr_l 27 (.iload_n 0, 1, 0, 0)) (tr_l 28 (.bipush 18, 2, 0, 0))))) (tr_n 33 (tr_n 30 (tr_l 30 (.if_icmp .eq 15, 3, 45, 0)) (tr_l 33 (.iload_n 0, 1, 0, 0))) (tr_n 34 (tr_l 34 (.bipush 56, 2, 0, 0)) (tr_n 36 (tr_l 36 (.if_icmp .eq 9, 3, 45, 0)) (tr_l 39 (.iload_n 0, 1, 0, 0))))))) (tr_n 58 (tr_n 49 (tr_n 42 (tr_n 40 (tr_l 40 (.bipush 43, 2, 0, 0)) (tr_l 42 (.if_icmp .ne 7, 3, 49, 0))) (tr_n 45 (tr_l 45 (.iconst 1, 1, 0, 0)) (tr_n 46 (tr_l 46 (.goto 32, 3, 78, 0)) (tr_l 49 (.iload_n 0, 1, 0, 0))))) (tr_n 51 (tr_n 50 (tr_l 50 (.iconst 1, 1, 0, 0)) (tr_l 51 (.if_icmp .eq 22, 3, 73, 0))) (tr_n 54 (tr_l 54 (.iload_n 0, 1, 0, 0)) (tr_n 55 (tr_l 55 (.sipush 216, 3, 0, 0)) (tr_l 58 (.if_icmp .eq 15, 3, 73, 0)))))) (tr_n 68 (tr_n 62 (tr_n 61 (tr_l 61 (.iload_n 0, 1, 0, 0)) (tr_l 62 (.bipush 50, 2, 0, 0))) (tr_n 64 (tr_l 64 (.if_icmp .eq 9, 3, 73, 0)) (tr_n 67 (tr_l 67 (.iload_n 0, 1, 0, 0)) (tr_l 68 (.bipush 51, 2, 0, 0))))) (tr_n 73 (tr_n 70 (tr_l 70 (.if_icmp .ne 7, 3, 77, 0)) (tr_l 73 (.iconst 2, 1, 0, 0))) (tr_n 74 (tr_l 74 (.goto 4, 3, 78, 0)) (tr_n 77 (tr_l 77 (.iconst 3, 1, 0, 0)) (tr_l 78 (.ireturn, 1, 1, 0))))))))
def c_M_numberOf : Nat → Option eg_E := (tr_n 13 (tr_n 3 (tr_n 0 (tr_l 0 (.iload_n 0, 1, 0, 0)) (tr_n 1 (tr_l 1 (.bipush 18, 2, 0, 0)) (tr_l 3 (.if_icmp .eq 10, 3, 13, 0)))) (tr_n 7 (tr_n 6 (tr_l 6 (.iload_n 0, 1, 0, 0)) (tr_l 7 (.sipush 256, 3, 0, 0))) (tr_n 10 (tr_l 10 (.if_icmp .ne 7, 3, 17, 0)) (tr_l 13 (.iconst 1, 1, 0, 0))))) (tr_n 21 (tr_n 17 (tr_n 14 (tr_l 14 (.goto 15, 3, 29, 0)) (tr_l 17 (.iload_n 0, 1, 0, 0))) (tr_n 18 (tr_l 18 (.sipush 216, 3, 0, 0)) (tr_l 21 (.if_icmp .ne 7, 3, 28, 0)))) (tr_n 25 (tr_n 24 (tr_l 24 (.iconst 2, 1, 0, 0)) (tr_l 25 (.goto 4, 3, 29, 0))) (tr_n 28 (tr_l 28 (.iconst 0, 1, 0, 0)) (tr_l 29 (.ireturn, 1, 1, 0))))))
def c_M_labelsOf : Nat → Option eg_E := (tr_n 23 (tr_n 11 (tr_n 4 (tr_n 0 (tr_l 0 (.iload_n 0, 1, 0, 0)) (tr_n 1 (tr_l 1 (.sipush 256, 3, 0, 0)) (tr_l 4 (.if_icmp .ne 7, 3, 11, 0)))) (tr_n 7 (tr_l 7 (.iconst (-1), 1, 0, 0)) (tr_n 8 (tr_l 8 (.goto 38, 3, 46, 0)) (tr_l 11 (.iload_n 0, 1, 0, 0))))) (tr_n 17 (tr_n 12 (tr_l 12 (.bipush 40, 2, 0, 0)) (tr_n 14 (tr_l 14 (.if_icmp .eq 27, 3, 41, 0)) (tr_l 17 (.iload_n 0, 1, 0, 0)))) (tr_n 18 (tr_l 18 (.bipush 50, 2, 0, 0)) (tr_n 20 (tr_l 20 (.if_icmp .eq 21, 3, 41, 0)) (tr_l 23 (.iload_n 0, 1, 0, 0)))))) (tr_n 35 (tr_n 29 (tr_n 24 (tr_l 24 (.bipush 51, 2, 0, 0)) (tr_n 26 (tr_l 26 (.if_icmp .eq 15, 3, 41, 0)) (tr_l 29 (.iload_n 0, 1, 0, 0)))) (tr_n 30 (tr_l 30 (.bipush 56, 2, 0, 0)) (tr_n 32 (tr_l 32 (.if_icmp .eq 9, 3, 41, 0)) (tr_l 35 (.iload_n 0, 1, 0, 0))))) (tr_n 41 (tr_n 36 (tr_l 36 (.bipush 43, 2, 0, 0)) (tr_n 38 (tr_l 38 (.if_icmp .ne 7, 3, 45, 0)) (tr_l 41 (.iconst 1, 1, 0, 0)))) (tr_n 42 (tr_l 42 (.goto 4, 3, 46, 0)) (tr_n 45 (tr_l 45 (.iconst 0, 1, 0, 0)) (tr_l 46 (.ireturn, 1, 1, 0)))))))
def c_M_registerIn : Nat → Option eg_E := (tr_n 27 (tr_n 13 (tr_n 5 (tr_n 1 (tr_n 0 (tr_l 0 (.iload_n 1, 1, 0, 0)) (tr_l 1 (.aload_n 0, 1, 0, 0))) (tr_n 2 (tr_l 2 (.getfield 88, 3, 4, 9)) (tr_l 5 (.if_icmp .ge 19, 3, 24, 0)))) (tr_n 9 (tr_n 8 (tr_l 8 (.aload_n 0, 1, 0, 0)) (tr_l 9 (.getfield 7, 3, 0, 9))) (tr_n 12 (tr_l 12 (.aload_n 0, 1, 0, 0)) (tr_l 13 (.getfield 13, 3, 1, 9))))) (tr_n 19 (tr_n 17 (tr_n 16 (tr_l 16 (.iload_n 1, 1, 0, 0)) (tr_l 17 (.iaload, 1, 0, 0))) (tr_n 18 (tr_l 18 (.iaload, 1, 0, 0)) (tr_l 19 (.bipush 118, 2, 0, 0)))) (tr_n 24 (tr_n 21 (tr_l 21 (.if_icmp .eq 5, 3, 26, 0)) (tr_l 24 (.iconst (-1), 1, 0, 0))) (tr_n 25 (tr_l 25 (.ireturn, 1, 1, 0)) (tr_n 26 (tr_l 26 (.aload_n 0, 1, 0, 0)) (tr_l 27 (.aload_n 0, 1, 0, 0))))))) (tr_n 40 (tr_n 33 (tr_n 31 (tr_n 28 (tr_l 28 (.getfield 13, 3, 1, 9)) (tr_l 31 (.iload_n 1, 1, 0, 0))) (tr_n 32 (tr_l 32 (.iaload, 1, 0, 0)) (tr_l 33 (.iconst 1, 1, 0, 0)))) (tr_n 35 (tr_n 34 (tr_l 34 (.iadd, 1, 0, 0)) (tr_l 35 (.aload_n 0, 1, 0, 0))) (tr_n 36 (tr_l 36 (.getfield 16, 3, 2, 9)) (tr_n 39 (tr_l 39 (.iload_n 1, 1, 0, 0)) (tr_l 40 (.iaload, 1, 0, 0)))))) (tr_n 46 (tr_n 44 (tr_n 41 (tr_l 41 (.invokevirtual 95, 3, 103, 9)) (tr_l 44 (.istore_n 2, 1, 0, 0))) (tr_n 45 (tr_l 45 (.iload_n 2, 1, 0, 0)) (tr_l 46 (.bipush 15, 2, 0, 0)))) (tr_n 51 (tr_n 48 (tr_l 48 (.if_icmp .le 7, 3, 55, 0)) (tr_l 51 (.iconst (-1), 1, 0, 0))) (tr_n 52 (tr_l 52 (.goto 4, 3, 56, 0)) (tr_n 55 (tr_l 55 (.iload_n 2, 1, 0, 0)) (tr_l 56 (.ireturn, 1, 1, 0))))))))
def c_M_digits : Nat → Option eg_E := (tr_n 37 (tr_n 18 (tr_n 7 (tr_n 2 (tr_n 0 (tr_l 0 (.iconst 0, 1, 0, 0)) (tr_n 1 (tr_l 1 (.istore_n 3, 1, 0, 0)) (tr_l 2 (.iload_n 1, 1, 0, 0)))) (tr_n 3 (tr_l 3 (.iload_n 2, 1, 0, 0)) (tr_n 4 (tr_l 4 (.if_icmp .ge 28, 3, 32, 0)) (tr_l 7 (.iload_n 2, 1, 0, 0))))) (tr_n 10 (tr_n 8 (tr_l 8 (.iload_n 1, 1, 0, 0)) (tr_n 9 (tr_l 9 (.isub, 1, 0, 0)) (tr_l 10 (.iconst 5, 1, 0, 0)))) (tr_n 14 (tr_n 11 (tr_l 11 (.if_icmp .gt 21, 3, 32, 0)) (tr_l 14 (.aload_n 0, 1, 0, 0))) (tr_n 15 (tr_l 15 (.getfield 7, 3, 0, 9)) (tr_l 18 (.iload_n 1, 1, 0, 0)))))) (tr_n 27 (tr_n 22 (tr_n 19 (tr_l 19 (.iaload, 1, 0, 0)) (tr_n 20 (tr_l 20 (.bipush 48, 2, 0, 0)) (tr_l 22 (.if_icmp .ne 12, 3, 34, 0)))) (tr_n 25 (tr_l 25 (.iload_n 2, 1, 0, 0)) (tr_n 26 (tr_l 26 (.iload_n 1, 1, 0, 0)) (tr_l 27 (.isub, 1, 0, 0))))) (tr_n 32 (tr_n 28 (tr_l 28 (.iconst 1, 1, 0, 0)) (tr_n 29 (tr_l 29 (.if_icmp .le 5, 3, 34, 0)) (tr_l 32 (.iconst (-1), 1, 0, 0)))) (tr_n 34 (tr_n 33 (tr_l 33 (.ireturn, 1, 1, 0)) (tr_l 34 (.iload_n 1, 1, 0, 0))) (tr_n 35 (tr_l 35 (.istore 4, 2, 0, 0)) (tr_l 37 (.iload 4, 2, 0, 0))))))) (tr_n 62 (tr_n 49 (tr_n 43 (tr_n 39 (tr_l 39 (.iload_n 2, 1, 0, 0)) (tr_n 40 (tr_l 40 (.if_icmp .ge 44, 3, 84, 0)) (tr_l 43 (.aload_n 0, 1, 0, 0)))) (tr_n 44 (tr_l 44 (.getfield 7, 3, 0, 9)) (tr_n 47 (tr_l 47 (.iload 4, 2, 0, 0)) (tr_l 49 (.iaload, 1, 0, 0))))) (tr_n 54 (tr_n 50 (tr_l 50 (.bipush 48, 2, 0, 0)) (tr_n 52 (tr_l 52 (.bipush 57, 2, 0, 0)) (tr_l 54 (.invokestatic 80, 3, 87, 0)))) (tr_n 60 (tr_n 57 (tr_l 57 (.ifCond .ne 5, 3, 62, 0)) (tr_l 60 (.iconst (-1), 1, 0, 0))) (tr_n 61 (tr_l 61 (.ireturn, 1, 1, 0)) (tr_l 62 (.bipush 10, 2, 0, 0)))))) (tr_n 73 (tr_n 66 (tr_n 64 (tr_l 64 (.iload_n 3, 1, 0, 0)) (tr_n 65 (tr_l 65 (.imul, 1, 0, 0)) (tr_l 66 (.aload_n 0, 1, 0, 0)))) (tr_n 70 (tr_n 67 (tr_l 67 (.getfield 7, 3, 0, 9)) (tr_l 70 (.iload 4, 2, 0, 0))) (tr_n 72 (tr_l 72 (.iaload, 1, 0, 0)) (tr_l 73 (.iadd, 1, 0, 0))))) (tr_n 77 (tr_n 74 (tr_l 74 (.bipush 48, 2, 0, 0)) (tr_n 76 (tr_l 76 (.isub, 1, 0, 0)) (tr_l 77 (.istore_n 3, 1, 0, 0)))) (tr_n 81 (tr_n 78 (tr_l 78 (.iinc 4 1, 3, 0, 0)) (tr_l 81 (.goto (-44), 3, 37, 0))) (tr_n 84 (tr_l 84 (.iload_n 3, 1, 0, 0)) (tr_l 85 (.ireturn, 1, 1, 0))))))))
def c_M_numberIn : Nat → Option eg_E := (tr_n 52 (tr_n 24 (tr_n 11 (tr_n 2 (tr_n 0 (tr_l 0 (.iload_n 1, 1, 0, 0)) (tr_n 1 (tr_l 1 (.aload_n 0, 1, 0, 0)) (tr_l 2 (.getfield 88, 3, 4, 9)))) (tr_n 8 (tr_n 5 (tr_l 5 (.if_icmp .lt 6, 3, 11, 0)) (tr_l 8 (.ldc 98, 2, 99999999, 0))) (tr_n 10 (tr_l 10 (.ireturn, 1, 1, 0)) (tr_l 11 (.aload_n 0, 1, 0, 0))))) (tr_n 19 (tr_n 15 (tr_n 12 (tr_l 12 (.getfield 7, 3, 0, 9)) (tr_l 15 (.aload_n 0, 1, 0, 0))) (tr_n 16 (tr_l 16 (.getfield 13, 3, 1, 9)) (tr_l 19 (.iload_n 1, 1, 0, 0)))) (tr_n 21 (tr_n 20 (tr_l 20 (.iaload, 1, 0, 0)) (tr_l 21 (.iaload, 1, 0, 0))) (tr_n 22 (tr_l 22 (.bipush 45, 2, 0, 0)) (tr_l 24 (.if_icmp .ne 7, 3, 31, 0)))))) (tr_n 40 (tr_n 32 (tr_n 28 (tr_n 27 (tr_l 27 (.iconst 1, 1, 0, 0)) (tr_l 28 (.goto 4, 3, 32, 0))) (tr_n 31 (tr_l 31 (.iconst 0, 1, 0, 0)) (tr_l 32 (.istore 4, 2, 0, 0)))) (tr_n 35 (tr_n 34 (tr_l 34 (.aload_n 0, 1, 0, 0)) (tr_l 35 (.iload 4, 2, 0, 0))) (tr_n 37 (tr_l 37 (.ifCond .eq 14, 3, 51, 0)) (tr_l 40 (.aload_n 0, 1, 0, 0))))) (tr_n 46 (tr_n 44 (tr_n 41 (tr_l 41 (.getfield 13, 3, 1, 9)) (tr_l 44 (.iload_n 1, 1, 0, 0))) (tr_n 45 (tr_l 45 (.iaload, 1, 0, 0)) (tr_l 46 (.iconst 1, 1, 0, 0)))) (tr_n 48 (tr_n 47 (tr_l 47 (.iadd, 1, 0, 0)) (tr_l 48 (.goto 9, 3, 57, 0))) (tr_n 51 (tr_l 51 (.aload_n 0, 1, 0, 0)) (tr_l 52 (.getfield 13, 3, 1, 9))))))) (tr_n 85 (tr_n 66 (tr_n 58 (tr_n 56 (tr_n 55 (tr_l 55 (.iload_n 1, 1, 0, 0)) (tr_l 56 (.iaload, 1, 0, 0))) (tr_n 57 (tr_l 57 (.aload_n 0, 1, 0, 0)) (tr_l 58 (.getfield 16, 3, 2, 9)))) (tr_n 62 (tr_n 61 (tr_l 61 (.iload_n 1, 1, 0, 0)) (tr_l 62 (.iaload, 1, 0, 0))) (tr_n 63 (tr_l 63 (.invokevirtual 95, 3, 103, 9)) (tr_l 66 (.istore 5, 2, 0, 0))))) (tr_n 75 (tr_n 70 (tr_n 68 (tr_l 68 (.iload 5, 2, 0, 0)) (tr_l 70 (.ifCond .lt 13, 3, 83, 0))) (tr_n 73 (tr_l 73 (.iload 4, 2, 0, 0)) (tr_l 75 (.ifCond .eq 11, 3, 86, 0)))) (tr_n 80 (tr_n 78 (tr_l 78 (.iload 5, 2, 0, 0)) (tr_l 80 (.ifCond .ne 6, 3, 86, 0))) (tr_n 83 (tr_l 83 (.ldc 98, 2, 99999999, 0)) (tr_l 85 (.ireturn, 1, 1, 0)))))) (tr_n 101 (tr_n 93 (tr_n 88 (tr_n 86 (tr_l 86 (.iload 4, 2, 0, 0)) (tr_l 88 (.ifCond .eq 9, 3, 97, 0))) (tr_n 91 (tr_l 91 (.iload 5, 2, 0, 0)) (tr_l 93 (.ineg, 1, 0, 0)))) (tr_n 97 (tr_n 94 (tr_l 94 (.goto 5, 3, 99, 0)) (tr_l 97 (.iload 5, 2, 0, 0))) (tr_n 99 (tr_l 99 (.istore 6, 2, 0, 0)) (tr_l 101 (.iload 6, 2, 0, 0))))) (tr_n 108 (tr_n 104 (tr_n 103 (tr_l 103 (.iload_n 2, 1, 0, 0)) (tr_l 104 (.iload_n 3, 1, 0, 0))) (tr_n 105 (tr_l 105 (.invokestatic 80, 3, 87, 0)) (tr_l 108 (.ifCond .eq 8, 3, 116, 0)))) (tr_n 113 (tr_n 111 (tr_l 111 (.iload 6, 2, 0, 0)) (tr_l 113 (.goto 5, 3, 118, 0))) (tr_n 116 (tr_l 116 (.ldc 98, 2, 99999999, 0)) (tr_l 118 (.ireturn, 1, 1, 0))))))))
def c_M_newNames : Nat → Option eg_E := (tr_n 34 (tr_n 14 (tr_n 4 (tr_n 1 (tr_n 0 (tr_l 0 (.iconst 0, 1, 0, 0)) (tr_l 1 (.istore_n 1, 1, 0, 0))) (tr_n 2 (tr_l 2 (.iconst 0, 1, 0, 0)) (tr_n 3 (tr_l 3 (.istore_n 2, 1, 0, 0)) (tr_l 4 (.iload_n 2, 1, 0, 0))))) (tr_n 9 (tr_n 5 (tr_l 5 (.aload_n 0, 1, 0, 0)) (tr_n 6 (tr_l 6 (.getfield 130, 3, 21, 9)) (tr_l 9 (.if_icmp .ge 68, 3, 77, 0)))) (tr_n 12 (tr_l 12 (.aload_n 0, 1, 0, 0)) (tr_n 13 (tr_l 13 (.aload_n 0, 1, 0, 0)) (tr_l 14 (.getfield 46, 3, 22, 9)))))) (tr_n 25 (tr_n 18 (tr_n 17 (tr_l 17 (.iload_n 2, 1, 0, 0)) (tr_l 18 (.iaload, 1, 0, 0))) (tr_n 19 (tr_l 19 (.invokevirtual 139, 3, 94, 9)) (tr_n 22 (tr_l 22 (.ifCond .ge 7, 3, 29, 0)) (tr_l 25 (.iconst 1, 1, 0, 0))))) (tr_n 30 (tr_n 26 (tr_l 26 (.goto 4, 3, 30, 0)) (tr_n 29 (tr_l 29 (.iconst 0, 1, 0, 0)) (tr_l 30 (.istore_n 3, 1, 0, 0)))) (tr_n 31 (tr_l 31 (.iconst 0, 1, 0, 0)) (tr_n 32 (tr_l 32 (.istore 4, 2, 0, 0)) (tr_l 34 (.iload 4, 2, 0, 0))))))) (tr_n 53 (tr_n 44 (tr_n 37 (tr_n 36 (tr_l 36 (.iload_n 2, 1, 0, 0)) (tr_l 37 (.if_icmp .ge 27, 3, 64, 0))) (tr_n 40 (tr_l 40 (.aload_n 0, 1, 0, 0)) (tr_n 41 (tr_l 41 (.getfield 46, 3, 22, 9)) (tr_l 44 (.iload 4, 2, 0, 0))))) (tr_n 48 (tr_n 46 (tr_l 46 (.iaload, 1, 0, 0)) (tr_n 47 (tr_l 47 (.aload_n 0, 1, 0, 0)) (tr_l 48 (.getfield 46, 3, 22, 9)))) (tr_n 51 (tr_l 51 (.iload_n 2, 1, 0, 0)) (tr_n 52 (tr_l 52 (.iaload, 1, 0, 0)) (tr_l 53 (.if_icmp .ne 5, 3, 58, 0)))))) (tr_n 64 (tr_n 57 (tr_n 56 (tr_l 56 (.iconst 0, 1, 0, 0)) (tr_l 57 (.istore_n 3, 1, 0, 0))) (tr_n 58 (tr_l 58 (.iinc 4 1, 3, 0, 0)) (tr_n 61 (tr_l 61 (.goto (-27), 3, 34, 0)) (tr_l 64 (.iload_n 3, 1, 0, 0))))) (tr_n 71 (tr_n 65 (tr_l 65 (.ifCond .eq 6, 3, 71, 0)) (tr_n 68 (tr_l 68 (.iinc 1 1, 3, 0, 0)) (tr_l 71 (.iinc 2 1, 3, 0, 0)))) (tr_n 74 (tr_l 74 (.goto (-70), 3, 4, 0)) (tr_n 77 (tr_l 77 (.iload_n 1, 1, 0, 0)) (tr_l 78 (.ireturn, 1, 1, 0))))))))
def c_M_clear : Nat → Option eg_E := (tr_n 6 (tr_n 1 (tr_n 0 (tr_l 0 (.aload_n 0, 1, 0, 0)) (tr_l 1 (.getfield 145, 3, 12, 9))) (tr_n 4 (tr_l 4 (.istore_n 1, 1, 0, 0)) (tr_n 5 (tr_l 5 (.aload_n 0, 1, 0, 0)) (tr_l 6 (.iconst 0, 1, 0, 0))))) (tr_n 11 (tr_n 7 (tr_l 7 (.putfield 145, 3, 12, 9)) (tr_n 10 (tr_l 10 (.aload_n 0, 1, 0, 0)) (tr_l 11 (.iconst 0, 1, 0, 0)))) (tr_n 12 (tr_l 12 (.putfield 136, 3, 15, 9)) (tr_n 15 (tr_l 15 (.iload_n 1, 1, 0, 0)) (tr_l 16 (.ireturn, 1, 1, 0))))))
def c_M_assemble : Nat → Option eg_E := (tr_n 111 (tr_n 54 (tr_n 25 (tr_n 10 (tr_n 2 (tr_n 0 (tr_l 0 (.iconst 0, 1, 0, 0)) (tr_n 1 (tr_l 1 (.istore_n 1, 1, 0, 0)) (tr_l 2 (.iload_n 1, 1, 0, 0)))) (tr_n 4 (tr_n 3 (tr_l 3 (.aload_n 0, 1, 0, 0)) (tr_l 4 (.getfield 136, 3, 15, 9))) (tr_n 7 (tr_l 7 (.if_icmp .ge 21, 3, 28, 0)) (tr_l 10 (.aload_n 0, 1, 0, 0))))) (tr_n 16 (tr_n 14 (tr_n 11 (tr_l 11 (.getfield 43, 3, 14, 9)) (tr_l 14 (.iload_n 1, 1, 0, 0))) (tr_n 15 (tr_l 15 (.iaload, 1, 0, 0)) (tr_l 16 (.ifCond .ge 6, 3, 22, 0)))) (tr_n 21 (tr_n 19 (tr_l 19 (.bipush (-6), 2, 0, 0)) (tr_l 21 (.ireturn, 1, 1, 0))) (tr_n 22 (tr_l 22 (.iinc 1 1, 3, 0, 0)) (tr_l 25 (.goto (-23), 3, 2, 0)))))) (tr_n 39 (tr_n 33 (tr_n 29 (tr_n 28 (tr_l 28 (.aload_n 0, 1, 0, 0)) (tr_l 29 (.invokevirtual 187, 3, 108, 9))) (tr_n 32 (tr_l 32 (.iconst 0, 1, 0, 0)) (tr_l 33 (.istore_n 1, 1, 0, 0)))) (tr_n 35 (tr_n 34 (tr_l 34 (.iload_n 1, 1, 0, 0)) (tr_l 35 (.aload_n 0, 1, 0, 0))) (tr_n 36 (tr_l 36 (.getfield 145, 3, 12, 9)) (tr_l 39 (.if_icmp .ge 52, 3, 91, 0))))) (tr_n 47 (tr_n 43 (tr_n 42 (tr_l 42 (.aload_n 0, 1, 0, 0)) (tr_l 43 (.getfield 19, 3, 5, 9))) (tr_n 46 (tr_l 46 (.iload_n 1, 1, 0, 0)) (tr_l 47 (.iaload, 1, 0, 0)))) (tr_n 50 (tr_n 48 (tr_l 48 (.bipush 43, 2, 0, 0)) (tr_l 50 (.if_icmp .ne 22, 3, 72, 0))) (tr_n 53 (tr_l 53 (.aload_n 0, 1, 0, 0)) (tr_l 54 (.aload_n 0, 1, 0, 0))))))) (tr_n 79 (tr_n 65 (tr_n 59 (tr_n 55 (tr_l 55 (.getfield 53, 3, 24, 9)) (tr_n 58 (tr_l 58 (.iload_n 1, 1, 0, 0)) (tr_l 59 (.iaload, 1, 0, 0)))) (tr_n 61 (tr_n 60 (tr_l 60 (.aload_n 0, 1, 0, 0)) (tr_l 61 (.iload_n 1, 1, 0, 0))) (tr_n 62 (tr_l 62 (.invokevirtual 180, 3, 111, 9)) (tr_l 65 (.iadd, 1, 0, 0))))) (tr_n 73 (tr_n 69 (tr_n 66 (tr_l 66 (.invokevirtual 190, 3, 113, 9)) (tr_l 69 (.ifCond .eq 7, 3, 76, 0))) (tr_n 72 (tr_l 72 (.iconst 1, 1, 0, 0)) (tr_l 73 (.goto 4, 3, 77, 0)))) (tr_n 77 (tr_n 76 (tr_l 76 (.iconst 0, 1, 0, 0)) (tr_l 77 (.istore_n 2, 1, 0, 0))) (tr_n 78 (tr_l 78 (.iload_n 2, 1, 0, 0)) (tr_l 79 (.ifCond .ne 6, 3, 85, 0)))))) (tr_n 98 (tr_n 88 (tr_n 84 (tr_n 82 (tr_l 82 (.bipush (-7), 2, 0, 0)) (tr_l 84 (.ireturn, 1, 1, 0))) (tr_n 85 (tr_l 85 (.iinc 1 1, 3, 0, 0)) (tr_l 88 (.goto (-54), 3, 34, 0)))) (tr_n 92 (tr_n 91 (tr_l 91 (.aload_n 0, 1, 0, 0)) (tr_l 92 (.getfield 171, 3, 25, 9))) (tr_n 95 (tr_l 95 (.sipush 200, 3, 0, 0)) (tr_l 98 (.if_icmp .le 6, 3, 104, 0))))) (tr_n 105 (tr_n 103 (tr_n 101 (tr_l 101 (.bipush (-3), 2, 0, 0)) (tr_l 103 (.ireturn, 1, 1, 0))) (tr_n 104 (tr_l 104 (.iconst 0, 1, 0, 0)) (tr_l 105 (.istore_n 1, 1, 0, 0)))) (tr_n 107 (tr_n 106 (tr_l 106 (.aload_n 0, 1, 0, 0)) (tr_l 107 (.aload_n 0, 1, 0, 0))) (tr_n 108 (tr_l 108 (.getfield 171, 3, 25, 9)) (tr_l 111 (.putfield 194, 3, 27, 9)))))))) (tr_n 165 (tr_n 138 (tr_n 124 (tr_n 116 (tr_n 114 (tr_l 114 (.iconst 0, 1, 0, 0)) (tr_n 115 (tr_l 115 (.istore_n 2, 1, 0, 0)) (tr_l 116 (.iload_n 2, 1, 0, 0)))) (tr_n 118 (tr_n 117 (tr_l 117 (.aload_n 0, 1, 0, 0)) (tr_l 118 (.getfield 194, 3, 27, 9))) (tr_n 121 (tr_l 121 (.if_icmp .ge 16, 3, 137, 0)) (tr_l 124 (.aload_n 0, 1, 0, 0))))) (tr_n 130 (tr_n 128 (tr_n 125 (tr_l 125 (.getfield 56, 3, 26, 9)) (tr_l 128 (.iload_n 2, 1, 0, 0))) (tr_n 129 (tr_l 129 (.iconst 0, 1, 0, 0)) (tr_l 130 (.iastore, 1, 0, 0)))) (tr_n 134 (tr_n 131 (tr_l 131 (.iinc 2 1, 3, 0, 0)) (tr_l 134 (.goto (-18), 3, 116, 0))) (tr_n 137 (tr_l 137 (.iconst 0, 1, 0, 0)) (tr_l 138 (.istore_n 2, 1, 0, 0)))))) (tr_n 152 (tr_n 144 (tr_n 140 (tr_n 139 (tr_l 139 (.iload_n 2, 1, 0, 0)) (tr_l 140 (.aload_n 0, 1, 0, 0))) (tr_n 141 (tr_l 141 (.getfield 145, 3, 12, 9)) (tr_l 144 (.if_icmp .ge 33, 3, 177, 0)))) (tr_n 148 (tr_n 147 (tr_l 147 (.aload_n 0, 1, 0, 0)) (tr_l 148 (.getfield 19, 3, 5, 9))) (tr_n 151 (tr_l 151 (.iload_n 2, 1, 0, 0)) (tr_l 152 (.iaload, 1, 0, 0))))) (tr_n 159 (tr_n 155 (tr_n 153 (tr_l 153 (.bipush 43, 2, 0, 0)) (tr_l 155 (.if_icmp .ne 10, 3, 165, 0))) (tr_n 158 (tr_l 158 (.aload_n 0, 1, 0, 0)) (tr_l 159 (.getfield 53, 3, 24, 9)))) (tr_n 163 (tr_n 162 (tr_l 162 (.iload_n 2, 1, 0, 0)) (tr_l 163 (.iaload, 1, 0, 0))) (tr_n 164 (tr_l 164 (.istore_n 1, 1, 0, 0)) (tr_l 165 (.aload_n 0, 1, 0, 0))))))) (tr_n 193 (tr_n 179 (tr_n 171 (tr_n 167 (tr_n 166 (tr_l 166 (.iload_n 2, 1, 0, 0)) (tr_l 167 (.iload_n 1, 1, 0, 0))) (tr_n 168 (tr_l 168 (.invokevirtual 197, 3, 114, 9)) (tr_l 171 (.iinc 2 1, 3, 0, 0)))) (tr_n 177 (tr_n 174 (tr_l 174 (.goto (-35), 3, 139, 0)) (tr_l 177 (.aload_n 0, 1, 0, 0))) (tr_n 178 (tr_l 178 (.iconst 0, 1, 0, 0)) (tr_l 179 (.putfield 201, 3, 41, 9))))) (tr_n 187 (tr_n 183 (tr_n 182 (tr_l 182 (.aload_n 0, 1, 0, 0)) (tr_l 183 (.iconst 0, 1, 0, 0))) (tr_n 184 (tr_l 184 (.putfield 204, 3, 42, 9)) (tr_l 187 (.aload_n 0, 1, 0, 0)))) (tr_n 189 (tr_n 188 (tr_l 188 (.iconst 0, 1, 0, 0)) (tr_l 189 (.putfield 207, 3, 43, 9))) (tr_n 192 (tr_l 192 (.aload_n 0, 1, 0, 0)) (tr_l 193 (.iconst 0, 1, 0, 0)))))) (tr_n 206 (tr_n 199 (tr_n 197 (tr_n 194 (tr_l 194 (.putfield 210, 3, 44, 9)) (tr_l 197 (.iconst 0, 1, 0, 0))) (tr_n 198 (tr_l 198 (.istore_n 2, 1, 0, 0)) (tr_l 199 (.iload_n 2, 1, 0, 0)))) (tr_n 202 (tr_n 200 (tr_l 200 (.bipush 16, 2, 0, 0)) (tr_l 202 (.if_icmp .ge 16, 3, 218, 0))) (tr_n 205 (tr_l 205 (.aload_n 0, 1, 0, 0)) (tr_l 206 (.getfield 68, 3, 40, 9))))) (tr_n 212 (tr_n 210 (tr_n 209 (tr_l 209 (.iload_n 2, 1, 0, 0)) (tr_l 210 (.iconst 0, 1, 0, 0))) (tr_n 211 (tr_l 211 (.iastore, 1, 0, 0)) (tr_l 212 (.iinc 2 1, 3, 0, 0)))) (tr_n 218 (tr_n 215 (tr_l 215 (.goto (-16), 3, 199, 0)) (tr_l 218 (.aload_n 0, 1, 0, 0))) (tr_n 219 (tr_l 219 (.getfield 194, 3, 27, 9)) (tr_l 222 (.ireturn, 1, 1, 0)))))))))
def c_M_settle : Nat → Option eg_E := (tr_n 50 (tr_n 24 (tr_n 10 (tr_n 2 (tr_n 0 (tr_l 0 (.iconst 0, 1, 0, 0)) (tr_n 1 (tr_l 1 (.istore_n 1, 1, 0, 0)) (tr_l 2 (.iload_n 1, 1, 0, 0)))) (tr_n 4 (tr_n 3 (tr_l 3 (.aload_n 0, 1, 0, 0)) (tr_l 4 (.getfield 145, 3, 12, 9))) (tr_n 7 (tr_l 7 (.if_icmp .ge 16, 3, 23, 0)) (tr_l 10 (.aload_n 0, 1, 0, 0))))) (tr_n 16 (tr_n 14 (tr_n 11 (tr_l 11 (.getfield 49, 3, 23, 9)) (tr_l 14 (.iload_n 1, 1, 0, 0))) (tr_n 15 (tr_l 15 (.iconst 0, 1, 0, 0)) (tr_l 16 (.bastore, 1, 4, 0)))) (tr_n 20 (tr_n 17 (tr_l 17 (.iinc 1 1, 3, 0, 0)) (tr_l 20 (.goto (-18), 3, 2, 0))) (tr_n 23 (tr_l 23 (.iconst 1, 1, 0, 0)) (tr_l 24 (.istore_n 1, 1, 0, 0)))))) (tr_n 36 (tr_n 30 (tr_n 26 (tr_n 25 (tr_l 25 (.iload_n 1, 1, 0, 0)) (tr_l 26 (.ifCond .eq 84, 3, 110, 0))) (tr_n 29 (tr_l 29 (.iconst 0, 1, 0, 0)) (tr_l 30 (.istore_n 1, 1, 0, 0)))) (tr_n 32 (tr_n 31 (tr_l 31 (.aload_n 0, 1, 0, 0)) (tr_l 32 (.invokevirtual 177, 3, 109, 9))) (tr_n 35 (tr_l 35 (.iconst 0, 1, 0, 0)) (tr_l 36 (.istore_n 2, 1, 0, 0))))) (tr_n 42 (tr_n 38 (tr_n 37 (tr_l 37 (.iload_n 2, 1, 0, 0)) (tr_l 38 (.aload_n 0, 1, 0, 0))) (tr_n 39 (tr_l 39 (.getfield 145, 3, 12, 9)) (tr_l 42 (.if_icmp .ge 65, 3, 107, 0)))) (tr_n 46 (tr_n 45 (tr_l 45 (.aload_n 0, 1, 0, 0)) (tr_l 46 (.getfield 19, 3, 5, 9))) (tr_n 49 (tr_l 49 (.iload_n 2, 1, 0, 0)) (tr_l 50 (.iaload, 1, 0, 0))))))) (tr_n 78 (tr_n 62 (tr_n 56 (tr_n 51 (tr_l 51 (.bipush 40, 2, 0, 0)) (tr_n 53 (tr_l 53 (.if_icmp .ne 48, 3, 101, 0)) (tr_l 56 (.aload_n 0, 1, 0, 0)))) (tr_n 60 (tr_n 57 (tr_l 57 (.getfield 49, 3, 23, 9)) (tr_l 60 (.iload_n 2, 1, 0, 0))) (tr_n 61 (tr_l 61 (.baload, 1, 4, 0)) (tr_l 62 (.ifCond .eq 6, 3, 68, 0))))) (tr_n 70 (tr_n 68 (tr_n 65 (tr_l 65 (.goto 36, 3, 101, 0)) (tr_l 68 (.aload_n 0, 1, 0, 0))) (tr_n 69 (tr_l 69 (.iload_n 2, 1, 0, 0)) (tr_l 70 (.invokevirtual 180, 3, 111, 9)))) (tr_n 74 (tr_n 73 (tr_l 73 (.istore_n 3, 1, 0, 0)) (tr_l 74 (.iload_n 3, 1, 0, 0))) (tr_n 75 (tr_l 75 (.ifCond .eq 17, 3, 92, 0)) (tr_l 78 (.iload_n 3, 1, 0, 0)))))) (tr_n 96 (tr_n 86 (tr_n 81 (tr_n 79 (tr_l 79 (.bipush (-128), 2, 0, 0)) (tr_l 81 (.bipush 127, 2, 0, 0))) (tr_n 83 (tr_l 83 (.invokestatic 80, 3, 87, 0)) (tr_l 86 (.ifCond .eq 6, 3, 92, 0)))) (tr_n 92 (tr_n 89 (tr_l 89 (.goto 12, 3, 101, 0)) (tr_l 92 (.aload_n 0, 1, 0, 0))) (tr_n 93 (tr_l 93 (.getfield 49, 3, 23, 9)) (tr_l 96 (.iload_n 2, 1, 0, 0))))) (tr_n 100 (tr_n 98 (tr_n 97 (tr_l 97 (.iconst 1, 1, 0, 0)) (tr_l 98 (.bastore, 1, 4, 0))) (tr_n 99 (tr_l 99 (.iconst 1, 1, 0, 0)) (tr_l 100 (.istore_n 1, 1, 0, 0)))) (tr_n 104 (tr_n 101 (tr_l 101 (.iinc 2 1, 3, 0, 0)) (tr_l 104 (.goto (-67), 3, 37, 0))) (tr_n 107 (tr_l 107 (.goto (-82), 3, 25, 0)) (tr_l 110 (.return_, 1, 0, 0))))))))
def c_M_layOut : Nat → Option eg_E := (tr_n 27 (tr_n 12 (tr_n 3 (tr_n 1 (tr_n 0 (tr_l 0 (.iconst 0, 1, 0, 0)) (tr_l 1 (.istore_n 1, 1, 0, 0))) (tr_n 2 (tr_l 2 (.iconst 0, 1, 0, 0)) (tr_l 3 (.istore_n 2, 1, 0, 0)))) (tr_n 5 (tr_n 4 (tr_l 4 (.iload_n 2, 1, 0, 0)) (tr_l 5 (.aload_n 0, 1, 0, 0))) (tr_n 6 (tr_l 6 (.getfield 145, 3, 12, 9)) (tr_n 9 (tr_l 9 (.if_icmp .ge 46, 3, 55, 0)) (tr_l 12 (.aload_n 0, 1, 0, 0)))))) (tr_n 18 (tr_n 16 (tr_n 13 (tr_l 13 (.getfield 19, 3, 5, 9)) (tr_l 16 (.iload_n 2, 1, 0, 0))) (tr_n 17 (tr_l 17 (.iaload, 1, 0, 0)) (tr_l 18 (.sipush 256, 3, 0, 0)))) (tr_n 24 (tr_n 21 (tr_l 21 (.if_icmp .ne 13, 3, 34, 0)) (tr_l 24 (.iload_n 1, 1, 0, 0))) (tr_n 25 (tr_l 25 (.iconst 2, 1, 0, 0)) (tr_n 26 (tr_l 26 (.irem, 1, 0, 0)) (tr_l 27 (.iconst 1, 1, 0, 0))))))) (tr_n 42 (tr_n 35 (tr_n 31 (tr_n 28 (tr_l 28 (.if_icmp .ne 6, 3, 34, 0)) (tr_l 31 (.iinc 1 1, 3, 0, 0))) (tr_n 34 (tr_l 34 (.aload_n 0, 1, 0, 0)) (tr_l 35 (.getfield 53, 3, 24, 9)))) (tr_n 39 (tr_n 38 (tr_l 38 (.iload_n 2, 1, 0, 0)) (tr_l 39 (.iload_n 1, 1, 0, 0))) (tr_n 40 (tr_l 40 (.iastore, 1, 0, 0)) (tr_n 41 (tr_l 41 (.iload_n 1, 1, 0, 0)) (tr_l 42 (.aload_n 0, 1, 0, 0)))))) (tr_n 49 (tr_n 44 (tr_n 43 (tr_l 43 (.iload_n 2, 1, 0, 0)) (tr_l 44 (.invokevirtual 168, 3, 110, 9))) (tr_n 47 (tr_l 47 (.iadd, 1, 0, 0)) (tr_n 48 (tr_l 48 (.istore_n 1, 1, 0, 0)) (tr_l 49 (.iinc 2 1, 3, 0, 0))))) (tr_n 55 (tr_n 52 (tr_l 52 (.goto (-48), 3, 4, 0)) (tr_l 55 (.aload_n 0, 1, 0, 0))) (tr_n 56 (tr_l 56 (.iload_n 1, 1, 0, 0)) (tr_n 57 (tr_l 57 (.putfield 171, 3, 25, 9)) (tr_l 60 (.return_, 1, 0, 0))))))))
def c_M_sizeOf : Nat → Option eg_E := (tr_n 56 (tr_n 25 (tr_n 13 (tr_n 5 (tr_n 1 (tr_n 0 (tr_l 0 (.aload_n 0, 1, 0, 0)) (tr_l 1 (.getfield 19, 3, 5, 9))) (tr_n 4 (tr_l 4 (.iload_n 1, 1, 0, 0)) (tr_l 5 (.iaload, 1, 0, 0)))) (tr_n 9 (tr_n 6 (tr_l 6 (.ifCond .eq 24, 3, 30, 0)) (tr_l 9 (.aload_n 0, 1, 0, 0))) (tr_n 10 (tr_l 10 (.getfield 19, 3, 5, 9)) (tr_l 13 (.iload_n 1, 1, 0, 0))))) (tr_n 19 (tr_n 15 (tr_n 14 (tr_l 14 (.iaload, 1, 0, 0)) (tr_l 15 (.iconst 1, 1, 0, 0))) (tr_n 16 (tr_l 16 (.if_icmp .eq 14, 3, 30, 0)) (tr_l 19 (.aload_n 0, 1, 0, 0)))) (tr_n 23 (tr_n 20 (tr_l 20 (.getfield 19, 3, 5, 9)) (tr_l 23 (.iload_n 1, 1, 0, 0))) (tr_n 24 (tr_l 24 (.iaload, 1, 0, 0)) (tr_l 25 (.bipush 15, 2, 0, 0)))))) (tr_n 38 (tr_n 32 (tr_n 30 (tr_n 27 (tr_l 27 (.if_icmp .ne 5, 3, 32, 0)) (tr_l 30 (.iconst 1, 1, 0, 0))) (tr_n 31 (tr_l 31 (.ireturn, 1, 1, 0)) (tr_l 32 (.aload_n 0, 1, 0, 0)))) (tr_n 36 (tr_n 33 (tr_l 33 (.getfield 19, 3, 5, 9)) (tr_l 36 (.iload_n 1, 1, 0, 0))) (tr_n 37 (tr_l 37 (.iaload, 1, 0, 0)) (tr_l 38 (.bipush 18, 2, 0, 0))))) (tr_n 47 (tr_n 43 (tr_n 40 (tr_l 40 (.if_icmp .ne 25, 3, 65, 0)) (tr_l 43 (.aload_n 0, 1, 0, 0))) (tr_n 44 (tr_l 44 (.getfield 31, 3, 9, 9)) (tr_l 47 (.iload_n 1, 1, 0, 0)))) (tr_n 49 (tr_n 48 (tr_l 48 (.iaload, 1, 0, 0)) (tr_l 49 (.bipush (-8), 2, 0, 0))) (tr_n 51 (tr_l 51 (.bipush 7, 2, 0, 0)) (tr_n 53 (tr_l 53 (.invokestatic 80, 3, 87, 0)) (tr_l 56 (.ifCond .eq 7, 3, 63, 0)))))))) (tr_n 86 (tr_n 70 (tr_n 64 (tr_n 60 (tr_n 59 (tr_l 59 (.iconst 1, 1, 0, 0)) (tr_l 60 (.goto 4, 3, 64, 0))) (tr_n 63 (tr_l 63 (.iconst 2, 1, 0, 0)) (tr_l 64 (.ireturn, 1, 1, 0)))) (tr_n 66 (tr_n 65 (tr_l 65 (.aload_n 0, 1, 0, 0)) (tr_l 66 (.getfield 19, 3, 5, 9))) (tr_n 69 (tr_l 69 (.iload_n 1, 1, 0, 0)) (tr_l 70 (.iaload, 1, 0, 0))))) (tr_n 77 (tr_n 73 (tr_n 71 (tr_l 71 (.bipush 40, 2, 0, 0)) (tr_l 73 (.if_icmp .ne 18, 3, 91, 0))) (tr_n 76 (tr_l 76 (.aload_n 0, 1, 0, 0)) (tr_l 77 (.getfield 49, 3, 23, 9)))) (tr_n 81 (tr_n 80 (tr_l 80 (.iload_n 1, 1, 0, 0)) (tr_l 81 (.baload, 1, 4, 0))) (tr_n 82 (tr_l 82 (.ifCond .eq 7, 3, 89, 0)) (tr_n 85 (tr_l 85 (.iconst 2, 1, 0, 0)) (tr_l 86 (.goto 4, 3, 90, 0))))))) (tr_n 100 (tr_n 92 (tr_n 90 (tr_n 89 (tr_l 89 (.iconst 1, 1, 0, 0)) (tr_l 90 (.ireturn, 1, 1, 0))) (tr_n 91 (tr_l 91 (.aload_n 0, 1, 0, 0)) (tr_l 92 (.getfield 19, 3, 5, 9)))) (tr_n 96 (tr_n 95 (tr_l 95 (.iload_n 1, 1, 0, 0)) (tr_l 96 (.iaload, 1, 0, 0))) (tr_n 97 (tr_l 97 (.sipush 256, 3, 0, 0)) (tr_l 100 (.if_icmp .ne 14, 3, 114, 0))))) (tr_n 108 (tr_n 104 (tr_n 103 (tr_l 103 (.iconst 3, 1, 0, 0)) (tr_l 104 (.aload_n 0, 1, 0, 0))) (tr_n 105 (tr_l 105 (.getfield 34, 3, 10, 9)) (tr_l 108 (.iload_n 1, 1, 0, 0)))) (tr_n 110 (tr_n 109 (tr_l 109 (.iaload, 1, 0, 0)) (tr_l 110 (.iadd, 1, 0, 0))) (tr_n 111 (tr_l 111 (.goto 4, 3, 115, 0)) (tr_n 114 (tr_l 114 (.iconst 2, 1, 0, 0)) (tr_l 115 (.ireturn, 1, 1, 0)))))))))
def c_M_distance : Nat → Option eg_E := (tr_n 8 (tr_n 2 (tr_n 0 (tr_l 0 (.aload_n 0, 1, 0, 0)) (tr_n 1 (tr_l 1 (.aload_n 0, 1, 0, 0)) (tr_l 2 (.getfield 37, 3, 11, 9)))) (tr_n 6 (tr_n 5 (tr_l 5 (.iconst 4, 1, 0, 0)) (tr_l 6 (.iload_n 1, 1, 0, 0))) (tr_n 7 (tr_l 7 (.imul, 1, 0, 0)) (tr_l 8 (.iaload, 1, 0, 0))))) (tr_n 13 (tr_n 9 (tr_l 9 (.invokevirtual 174, 3, 112, 9)) (tr_n 12 (tr_l 12 (.aload_n 0, 1, 0, 0)) (tr_l 13 (.getfield 53, 3, 24, 9)))) (tr_n 17 (tr_n 16 (tr_l 16 (.iload_n 1, 1, 0, 0)) (tr_l 17 (.iaload, 1, 0, 0))) (tr_n 18 (tr_l 18 (.isub, 1, 0, 0)) (tr_l 19 (.ireturn, 1, 1, 0))))))
def c_M_meaning : Nat → Option eg_E := (tr_n 19 (tr_n 9 (tr_n 4 (tr_n 0 (tr_l 0 (.aload_n 0, 1, 0, 0)) (tr_n 1 (tr_l 1 (.getfield 43, 3, 14, 9)) (tr_l 4 (.iload_n 1, 1, 0, 0)))) (tr_n 5 (tr_l 5 (.iaload, 1, 0, 0)) (tr_n 6 (tr_l 6 (.ifCond .ge 7, 3, 13, 0)) (tr_l 9 (.iconst 0, 1, 0, 0))))) (tr_n 14 (tr_n 10 (tr_l 10 (.goto 34, 3, 44, 0)) (tr_n 13 (tr_l 13 (.aload_n 0, 1, 0, 0)) (tr_l 14 (.getfield 43, 3, 14, 9)))) (tr_n 17 (tr_l 17 (.iload_n 1, 1, 0, 0)) (tr_n 18 (tr_l 18 (.iaload, 1, 0, 0)) (tr_l 19 (.aload_n 0, 1, 0, 0)))))) (tr_n 33 (tr_n 26 (tr_n 20 (tr_l 20 (.getfield 145, 3, 12, 9)) (tr_n 23 (tr_l 23 (.if_icmp .ne 10, 3, 33, 0)) (tr_l 26 (.aload_n 0, 1, 0, 0)))) (tr_n 27 (tr_l 27 (.getfield 171, 3, 25, 9)) (tr_n 30 (tr_l 30 (.goto 14, 3, 44, 0)) (tr_l 33 (.aload_n 0, 1, 0, 0))))) (tr_n 38 (tr_n 34 (tr_l 34 (.getfield 53, 3, 24, 9)) (tr_n 37 (tr_l 37 (.aload_n 0, 1, 0, 0)) (tr_l 38 (.getfield 43, 3, 14, 9)))) (tr_n 42 (tr_n 41 (tr_l 41 (.iload_n 1, 1, 0, 0)) (tr_l 42 (.iaload, 1, 0, 0))) (tr_n 43 (tr_l 43 (.iaload, 1, 0, 0)) (tr_l 44 (.ireturn, 1, 1, 0)))))))
def c_M_isCasesAt : Nat → Option eg_E := (tr_n 19 (tr_n 7 (tr_n 2 (tr_n 0 (tr_l 0 (.iconst 0, 1, 0, 0)) (tr_n 1 (tr_l 1 (.istore_n 2, 1, 0, 0)) (tr_l 2 (.iload_n 2, 1, 0, 0)))) (tr_n 3 (tr_l 3 (.aload_n 0, 1, 0, 0)) (tr_n 4 (tr_l 4 (.getfield 145, 3, 12, 9)) (tr_l 7 (.if_icmp .ge 33, 3, 40, 0))))) (tr_n 14 (tr_n 10 (tr_l 10 (.aload_n 0, 1, 0, 0)) (tr_n 11 (tr_l 11 (.getfield 19, 3, 5, 9)) (tr_l 14 (.iload_n 2, 1, 0, 0)))) (tr_n 15 (tr_l 15 (.iaload, 1, 0, 0)) (tr_n 16 (tr_l 16 (.sipush 256, 3, 0, 0)) (tr_l 19 (.if_icmp .ne 15, 3, 34, 0)))))) (tr_n 29 (tr_n 26 (tr_n 22 (tr_l 22 (.aload_n 0, 1, 0, 0)) (tr_n 23 (tr_l 23 (.getfield 53, 3, 24, 9)) (tr_l 26 (.iload_n 2, 1, 0, 0)))) (tr_n 27 (tr_l 27 (.iaload, 1, 0, 0)) (tr_n 28 (tr_l 28 (.iload_n 1, 1, 0, 0)) (tr_l 29 (.if_icmp .ne 5, 3, 34, 0))))) (tr_n 34 (tr_n 32 (tr_l 32 (.iconst 1, 1, 0, 0)) (tr_n 33 (tr_l 33 (.ireturn, 1, 2, 0)) (tr_l 34 (.iinc 2 1, 3, 0, 0)))) (tr_n 37 (tr_l 37 (.goto (-35), 3, 2, 0)) (tr_n 40 (tr_l 40 (.iconst 0, 1, 0, 0)) (tr_l 41 (.ireturn, 1, 2, 0)))))))
def c_M_write : Nat → Option eg_E := (tr_n 216 (tr_n 108 (tr_n 48 (tr_n 21 (tr_n 8 (tr_n 4 (tr_n 0 (tr_l 0 (.aload_n 0, 1, 0, 0)) (tr_n 1 (tr_l 1 (.getfield 53, 3, 24, 9)) (tr_l 4 (.iload_n 1, 1, 0, 0)))) (tr_n 6 (tr_n 5 (tr_l 5 (.iaload, 1, 0, 0)) (tr_l 6 (.istore_n 3, 1, 0, 0))) (tr_n 7 (tr_l 7 (.aload_n 0, 1, 0, 0)) (tr_l 8 (.getfield 19, 3, 5, 9))))) (tr_n 13 (tr_n 11 (tr_l 11 (.iload_n 1, 1, 0, 0)) (tr_n 12 (tr_l 12 (.iaload, 1, 0, 0)) (tr_l 13 (.istore 4, 2, 0, 0)))) (tr_n 17 (tr_n 15 (tr_l 15 (.iload 4, 2, 0, 0)) (tr_l 17 (.invokestatic 108, 3, 101, 0))) (tr_n 20 (tr_l 20 (.iconst 1, 1, 0, 0)) (tr_l 21 (.if_icmp .ne 11, 3, 32, 0)))))) (tr_n 35 (tr_n 26 (tr_n 24 (tr_l 24 (.aload_n 0, 1, 0, 0)) (tr_n 25 (tr_l 25 (.iload_n 1, 1, 0, 0)) (tr_l 26 (.invokevirtual 180, 3, 111, 9)))) (tr_n 32 (tr_n 29 (tr_l 29 (.goto 4, 3, 33, 0)) (tr_l 32 (.iconst 0, 1, 0, 0))) (tr_n 33 (tr_l 33 (.istore 5, 2, 0, 0)) (tr_l 35 (.iload 4, 2, 0, 0))))) (tr_n 44 (tr_n 40 (tr_n 37 (tr_l 37 (.sipush 256, 3, 0, 0)) (tr_l 40 (.aload_n 0, 1, 0, 0))) (tr_n 41 (tr_l 41 (.getfield 22, 3, 6, 9)) (tr_l 44 (.iload_n 1, 1, 0, 0)))) (tr_n 46 (tr_n 45 (tr_l 45 (.iaload, 1, 0, 0)) (tr_l 46 (.imul, 1, 0, 0))) (tr_n 47 (tr_l 47 (.iadd, 1, 0, 0)) (tr_l 48 (.istore 6, 2, 0, 0))))))) (tr_n 80 (tr_n 63 (tr_n 53 (tr_n 50 (tr_l 50 (.iload 4, 2, 0, 0)) (tr_n 52 (tr_l 52 (.iconst 1, 1, 0, 0)) (tr_l 53 (.if_icmp .eq 17, 3, 70, 0)))) (tr_n 58 (tr_n 56 (tr_l 56 (.iload 4, 2, 0, 0)) (tr_l 58 (.bipush 50, 2, 0, 0))) (tr_n 60 (tr_l 60 (.if_icmp .eq 10, 3, 70, 0)) (tr_l 63 (.iload 4, 2, 0, 0))))) (tr_n 72 (tr_n 67 (tr_n 65 (tr_l 65 (.bipush 51, 2, 0, 0)) (tr_l 67 (.if_icmp .ne 18, 3, 85, 0))) (tr_n 70 (tr_l 70 (.iload 6, 2, 0, 0)) (tr_l 72 (.sipush 4096, 3, 0, 0)))) (tr_n 76 (tr_n 75 (tr_l 75 (.aload_n 0, 1, 0, 0)) (tr_l 76 (.getfield 25, 3, 7, 9))) (tr_n 79 (tr_l 79 (.iload_n 1, 1, 0, 0)) (tr_l 80 (.iaload, 1, 0, 0)))))) (tr_n 92 (tr_n 83 (tr_n 81 (tr_l 81 (.imul, 1, 0, 0)) (tr_n 82 (tr_l 82 (.iadd, 1, 0, 0)) (tr_l 83 (.istore 6, 2, 0, 0)))) (tr_n 87 (tr_n 85 (tr_l 85 (.iload 4, 2, 0, 0)) (tr_l 87 (.bipush 18, 2, 0, 0))) (tr_n 89 (tr_l 89 (.if_icmp .ne 44, 3, 133, 0)) (tr_l 92 (.aload_n 0, 1, 0, 0))))) (tr_n 98 (tr_n 96 (tr_n 93 (tr_l 93 (.getfield 31, 3, 9, 9)) (tr_l 96 (.iload_n 1, 1, 0, 0))) (tr_n 97 (tr_l 97 (.iaload, 1, 0, 0)) (tr_l 98 (.bipush (-8), 2, 0, 0)))) (tr_n 102 (tr_n 100 (tr_l 100 (.bipush 7, 2, 0, 0)) (tr_l 102 (.invokestatic 80, 3, 87, 0))) (tr_n 105 (tr_l 105 (.ifCond .eq 22, 3, 127, 0)) (tr_l 108 (.iload 6, 2, 0, 0)))))))) (tr_n 164 (tr_n 131 (tr_n 121 (tr_n 114 (tr_n 110 (tr_l 110 (.sipush 4096, 3, 0, 0)) (tr_n 113 (tr_l 113 (.aload_n 0, 1, 0, 0)) (tr_l 114 (.getfield 31, 3, 9, 9)))) (tr_n 118 (tr_n 117 (tr_l 117 (.iload_n 1, 1, 0, 0)) (tr_l 118 (.iaload, 1, 0, 0))) (tr_n 119 (tr_l 119 (.bipush 15, 2, 0, 0)) (tr_l 121 (.iand, 1, 0, 0))))) (tr_n 124 (tr_n 122 (tr_l 122 (.imul, 1, 0, 0)) (tr_n 123 (tr_l 123 (.iadd, 1, 0, 0)) (tr_l 124 (.goto 7, 3, 131, 0)))) (tr_n 129 (tr_n 127 (tr_l 127 (.iload 6, 2, 0, 0)) (tr_l 129 (.iconst 1, 1, 0, 0))) (tr_n 130 (tr_l 130 (.iadd, 1, 0, 0)) (tr_l 131 (.istore 6, 2, 0, 0)))))) (tr_n 145 (tr_n 137 (tr_n 133 (tr_l 133 (.iload 4, 2, 0, 0)) (tr_n 135 (tr_l 135 (.bipush 40, 2, 0, 0)) (tr_l 137 (.if_icmp .ne 32, 3, 169, 0)))) (tr_n 141 (tr_n 140 (tr_l 140 (.aload_n 0, 1, 0, 0)) (tr_l 141 (.getfield 49, 3, 23, 9))) (tr_n 144 (tr_l 144 (.iload_n 1, 1, 0, 0)) (tr_l 145 (.baload, 1, 4, 0))))) (tr_n 154 (tr_n 149 (tr_n 146 (tr_l 146 (.ifCond .eq 8, 3, 154, 0)) (tr_l 149 (.bipush 41, 2, 0, 0))) (tr_n 151 (tr_l 151 (.goto 16, 3, 167, 0)) (tr_l 154 (.bipush 40, 2, 0, 0)))) (tr_n 159 (tr_n 156 (tr_l 156 (.sipush 256, 3, 0, 0)) (tr_l 159 (.iload 5, 2, 0, 0))) (tr_n 161 (tr_l 161 (.sipush 255, 3, 0, 0)) (tr_l 164 (.iand, 1, 0, 0))))))) (tr_n 191 (tr_n 177 (tr_n 167 (tr_n 165 (tr_l 165 (.imul, 1, 0, 0)) (tr_n 166 (tr_l 166 (.iadd, 1, 0, 0)) (tr_l 167 (.istore 6, 2, 0, 0)))) (tr_n 171 (tr_n 169 (tr_l 169 (.iload 4, 2, 0, 0)) (tr_l 171 (.sipush 256, 3, 0, 0))) (tr_n 174 (tr_l 174 (.if_icmp .ne 8, 3, 182, 0)) (tr_l 177 (.sipush 256, 3, 0, 0))))) (tr_n 186 (tr_n 182 (tr_n 180 (tr_l 180 (.istore 6, 2, 0, 0)) (tr_l 182 (.aload_n 0, 1, 0, 0))) (tr_n 183 (tr_l 183 (.getfield 56, 3, 26, 9)) (tr_l 186 (.iload_n 3, 1, 0, 0)))) (tr_n 189 (tr_n 187 (tr_l 187 (.iload 6, 2, 0, 0)) (tr_l 189 (.iastore, 1, 0, 0))) (tr_n 190 (tr_l 190 (.aload_n 0, 1, 0, 0)) (tr_l 191 (.iload_n 1, 1, 0, 0)))))) (tr_n 204 (tr_n 196 (tr_n 192 (tr_l 192 (.invokevirtual 168, 3, 110, 9)) (tr_n 195 (tr_l 195 (.iconst 1, 1, 0, 0)) (tr_l 196 (.if_icmp .ne 4, 3, 200, 0)))) (tr_n 200 (tr_n 199 (tr_l 199 (.return_, 1, 0, 0)) (tr_l 200 (.iload 4, 2, 0, 0))) (tr_n 202 (tr_l 202 (.bipush 18, 2, 0, 0)) (tr_l 204 (.if_icmp .ne 24, 3, 228, 0))))) (tr_n 212 (tr_n 208 (tr_n 207 (tr_l 207 (.aload_n 0, 1, 0, 0)) (tr_l 208 (.getfield 56, 3, 26, 9))) (tr_n 211 (tr_l 211 (.iload_n 3, 1, 0, 0)) (tr_l 212 (.iconst 1, 1, 0, 0)))) (tr_n 214 (tr_n 213 (tr_l 213 (.iadd, 1, 0, 0)) (tr_l 214 (.aload_n 0, 1, 0, 0))) (tr_n 215 (tr_l 215 (.aload_n 0, 1, 0, 0)) (tr_l 216 (.getfield 31, 3, 9, 9))))))))) (tr_n 324 (tr_n 270 (tr_n 247 (tr_n 230 (tr_n 221 (tr_n 219 (tr_l 219 (.iload_n 1, 1, 0, 0)) (tr_n 220 (tr_l 220 (.iaload, 1, 0, 0)) (tr_l 221 (.invokevirtual 184, 3, 115, 9)))) (tr_n 225 (tr_n 224 (tr_l 224 (.iastore, 1, 0, 0)) (tr_l 225 (.goto 194, 3, 419, 0))) (tr_n 228 (tr_l 228 (.iload 4, 2, 0, 0)) (tr_l 230 (.sipush 144, 3, 0, 0))))) (tr_n 239 (tr_n 233 (tr_l 233 (.sipush 146, 3, 0, 0)) (tr_n 236 (tr_l 236 (.invokestatic 80, 3, 87, 0)) (tr_l 239 (.ifCond .eq 31, 3, 270, 0)))) (tr_n 243 (tr_n 242 (tr_l 242 (.aload_n 0, 1, 0, 0)) (tr_l 243 (.getfield 56, 3, 26, 9))) (tr_n 246 (tr_l 246 (.iload_n 3, 1, 0, 0)) (tr_l 247 (.iconst 1, 1, 0, 0)))))) (tr_n 258 (tr_n 250 (tr_n 248 (tr_l 248 (.iadd, 1, 0, 0)) (tr_n 249 (tr_l 249 (.aload_n 0, 1, 0, 0)) (tr_l 250 (.getfield 25, 3, 7, 9)))) (tr_n 254 (tr_n 253 (tr_l 253 (.iload_n 1, 1, 0, 0)) (tr_l 254 (.iaload, 1, 0, 0))) (tr_n 255 (tr_l 255 (.sipush 256, 3, 0, 0)) (tr_l 258 (.aload_n 0, 1, 0, 0))))) (tr_n 264 (tr_n 262 (tr_n 259 (tr_l 259 (.getfield 28, 3, 8, 9)) (tr_l 262 (.iload_n 1, 1, 0, 0))) (tr_n 263 (tr_l 263 (.iaload, 1, 0, 0)) (tr_l 264 (.imul, 1, 0, 0)))) (tr_n 266 (tr_n 265 (tr_l 265 (.iadd, 1, 0, 0)) (tr_l 266 (.iastore, 1, 0, 0))) (tr_n 267 (tr_l 267 (.goto 152, 3, 419, 0)) (tr_l 270 (.iload 4, 2, 0, 0))))))) (tr_n 298 (tr_n 284 (tr_n 278 (tr_n 272 (tr_l 272 (.sipush 216, 3, 0, 0)) (tr_n 275 (tr_l 275 (.if_icmp .ne 35, 3, 310, 0)) (tr_l 278 (.aload_n 0, 1, 0, 0)))) (tr_n 282 (tr_n 279 (tr_l 279 (.getfield 56, 3, 26, 9)) (tr_l 282 (.iload_n 3, 1, 0, 0))) (tr_n 283 (tr_l 283 (.iconst 1, 1, 0, 0)) (tr_l 284 (.iadd, 1, 0, 0))))) (tr_n 290 (tr_n 286 (tr_n 285 (tr_l 285 (.aload_n 0, 1, 0, 0)) (tr_l 286 (.getfield 25, 3, 7, 9))) (tr_n 289 (tr_l 289 (.iload_n 1, 1, 0, 0)) (tr_l 290 (.iaload, 1, 0, 0)))) (tr_n 294 (tr_n 291 (tr_l 291 (.sipush 256, 3, 0, 0)) (tr_l 294 (.aload_n 0, 1, 0, 0))) (tr_n 295 (tr_l 295 (.getfield 31, 3, 9, 9)) (tr_l 298 (.iload_n 1, 1, 0, 0)))))) (tr_n 307 (tr_n 303 (tr_n 299 (tr_l 299 (.iaload, 1, 0, 0)) (tr_n 300 (tr_l 300 (.sipush 255, 3, 0, 0)) (tr_l 303 (.iand, 1, 0, 0)))) (tr_n 305 (tr_n 304 (tr_l 304 (.imul, 1, 0, 0)) (tr_l 305 (.iadd, 1, 0, 0))) (tr_n 306 (tr_l 306 (.iastore, 1, 0, 0)) (tr_l 307 (.goto 112, 3, 419, 0))))) (tr_n 318 (tr_n 312 (tr_n 310 (tr_l 310 (.iload 4, 2, 0, 0)) (tr_l 312 (.sipush 256, 3, 0, 0))) (tr_n 315 (tr_l 315 (.if_icmp .eq 20, 3, 335, 0)) (tr_l 318 (.aload_n 0, 1, 0, 0)))) (tr_n 322 (tr_n 319 (tr_l 319 (.getfield 56, 3, 26, 9)) (tr_l 322 (.iload_n 3, 1, 0, 0))) (tr_n 323 (tr_l 323 (.iconst 1, 1, 0, 0)) (tr_l 324 (.iadd, 1, 0, 0)))))))) (tr_n 370 (tr_n 348 (tr_n 336 (tr_n 328 (tr_n 325 (tr_l 325 (.aload_n 0, 1, 0, 0)) (tr_n 326 (tr_l 326 (.iload 5, 2, 0, 0)) (tr_l 328 (.invokevirtual 184, 3, 115, 9)))) (tr_n 332 (tr_n 331 (tr_l 331 (.iastore, 1, 0, 0)) (tr_l 332 (.goto 87, 3, 419, 0))) (tr_n 335 (tr_l 335 (.aload_n 0, 1, 0, 0)) (tr_l 336 (.getfield 56, 3, 26, 9))))) (tr_n 342 (tr_n 340 (tr_n 339 (tr_l 339 (.iload_n 3, 1, 0, 0)) (tr_l 340 (.iconst 1, 1, 0, 0))) (tr_n 341 (tr_l 341 (.iadd, 1, 0, 0)) (tr_l 342 (.aload_n 0, 1, 0, 0)))) (tr_n 346 (tr_n 343 (tr_l 343 (.getfield 34, 3, 10, 9)) (tr_l 346 (.iload_n 1, 1, 0, 0))) (tr_n 347 (tr_l 347 (.iaload, 1, 0, 0)) (tr_l 348 (.iastore, 1, 0, 0)))))) (tr_n 357 (tr_n 353 (tr_n 349 (tr_l 349 (.aload_n 0, 1, 0, 0)) (tr_n 350 (tr_l 350 (.getfield 56, 3, 26, 9)) (tr_l 353 (.iload_n 3, 1, 0, 0)))) (tr_n 355 (tr_n 354 (tr_l 354 (.iconst 2, 1, 0, 0)) (tr_l 355 (.iadd, 1, 0, 0))) (tr_n 356 (tr_l 356 (.aload_n 0, 1, 0, 0)) (tr_l 357 (.aload_n 0, 1, 0, 0))))) (tr_n 363 (tr_n 361 (tr_n 358 (tr_l 358 (.getfield 31, 3, 9, 9)) (tr_l 361 (.iload_n 1, 1, 0, 0))) (tr_n 362 (tr_l 362 (.iaload, 1, 0, 0)) (tr_l 363 (.invokevirtual 184, 3, 115, 9)))) (tr_n 367 (tr_n 366 (tr_l 366 (.iastore, 1, 0, 0)) (tr_l 367 (.iconst 0, 1, 0, 0))) (tr_n 368 (tr_l 368 (.istore 7, 2, 0, 0)) (tr_l 370 (.iload 7, 2, 0, 0))))))) (tr_n 393 (tr_n 382 (tr_n 376 (tr_n 372 (tr_l 372 (.aload_n 0, 1, 0, 0)) (tr_n 373 (tr_l 373 (.getfield 34, 3, 10, 9)) (tr_l 376 (.iload_n 1, 1, 0, 0)))) (tr_n 378 (tr_n 377 (tr_l 377 (.iaload, 1, 0, 0)) (tr_l 378 (.if_icmp .ge 41, 3, 419, 0))) (tr_n 381 (tr_l 381 (.aload_n 0, 1, 0, 0)) (tr_l 382 (.getfield 56, 3, 26, 9))))) (tr_n 388 (tr_n 386 (tr_n 385 (tr_l 385 (.iload_n 3, 1, 0, 0)) (tr_l 386 (.iconst 3, 1, 0, 0))) (tr_n 387 (tr_l 387 (.iadd, 1, 0, 0)) (tr_l 388 (.iload 7, 2, 0, 0)))) (tr_n 391 (tr_n 390 (tr_l 390 (.iadd, 1, 0, 0)) (tr_l 391 (.aload_n 0, 1, 0, 0))) (tr_n 392 (tr_l 392 (.aload_n 0, 1, 0, 0)) (tr_l 393 (.aload_n 0, 1, 0, 0)))))) (tr_n 403 (tr_n 398 (tr_n 394 (tr_l 394 (.getfield 37, 3, 11, 9)) (tr_n 397 (tr_l 397 (.iconst 4, 1, 0, 0)) (tr_l 398 (.iload_n 1, 1, 0, 0)))) (tr_n 400 (tr_n 399 (tr_l 399 (.imul, 1, 0, 0)) (tr_l 400 (.iload 7, 2, 0, 0))) (tr_n 402 (tr_l 402 (.iadd, 1, 0, 0)) (tr_l 403 (.iaload, 1, 0, 0))))) (tr_n 409 (tr_n 407 (tr_n 404 (tr_l 404 (.invokevirtual 174, 3, 112, 9)) (tr_l 407 (.iload_n 2, 1, 0, 0))) (tr_n 408 (tr_l 408 (.isub, 1, 0, 0)) (tr_l 409 (.invokevirtual 184, 3, 115, 9)))) (tr_n 413 (tr_n 412 (tr_l 412 (.iastore, 1, 0, 0)) (tr_l 413 (.iinc 7 1, 3, 0, 0))) (tr_n 416 (tr_l 416 (.goto (-46), 3, 370, 0)) (tr_l 419 (.return_, 1, 0, 0))))))))))
def c_M_rest : Nat → Option eg_E := (tr_n 1 (tr_n 0 (tr_l 0 (.iload_n 1, 1, 0, 0)) (tr_l 1 (.ldc 183, 2, 65535, 0))) (tr_n 3 (tr_l 3 (.iand, 1, 0, 0)) (tr_l 4 (.ireturn, 1, 1, 0))))
def c_M_item : Nat → Option eg_E := (tr_n 29 (tr_n 12 (tr_n 3 (tr_n 1 (tr_n 0 (tr_l 0 (.iload_n 2, 1, 0, 0)) (tr_l 1 (.iconst 0, 1, 0, 0))) (tr_n 2 (tr_l 2 (.iconst 2, 1, 0, 0)) (tr_l 3 (.invokestatic 80, 3, 87, 0)))) (tr_n 9 (tr_n 6 (tr_l 6 (.ifCond .ne 5, 3, 11, 0)) (tr_l 9 (.iconst (-1), 1, 0, 0))) (tr_n 10 (tr_l 10 (.ireturn, 1, 1, 0)) (tr_n 11 (tr_l 11 (.iload_n 1, 1, 0, 0)) (tr_l 12 (.iconst 0, 1, 0, 0)))))) (tr_n 19 (tr_n 14 (tr_n 13 (tr_l 13 (.aload_n 0, 1, 0, 0)) (tr_l 14 (.getfield 145, 3, 12, 9))) (tr_n 17 (tr_l 17 (.iconst 1, 1, 0, 0)) (tr_n 18 (tr_l 18 (.isub, 1, 0, 0)) (tr_l 19 (.invokestatic 80, 3, 87, 0))))) (tr_n 25 (tr_n 22 (tr_l 22 (.ifCond .ne 6, 3, 28, 0)) (tr_l 25 (.bipush (-2), 2, 0, 0))) (tr_n 27 (tr_l 27 (.ireturn, 1, 1, 0)) (tr_n 28 (tr_l 28 (.aload_n 0, 1, 0, 0)) (tr_l 29 (.invokevirtual 187, 3, 108, 9))))))) (tr_n 46 (tr_n 37 (tr_n 33 (tr_n 32 (tr_l 32 (.iload_n 2, 1, 0, 0)) (tr_l 33 (.ifCond .ne 12, 3, 45, 0))) (tr_n 36 (tr_l 36 (.aload_n 0, 1, 0, 0)) (tr_l 37 (.getfield 19, 3, 5, 9)))) (tr_n 41 (tr_n 40 (tr_l 40 (.iload_n 1, 1, 0, 0)) (tr_l 41 (.iaload, 1, 0, 0))) (tr_n 42 (tr_l 42 (.goto 22, 3, 64, 0)) (tr_n 45 (tr_l 45 (.iload_n 2, 1, 0, 0)) (tr_l 46 (.iconst 1, 1, 0, 0)))))) (tr_n 55 (tr_n 50 (tr_n 47 (tr_l 47 (.if_icmp .ne 12, 3, 59, 0)) (tr_l 50 (.aload_n 0, 1, 0, 0))) (tr_n 51 (tr_l 51 (.getfield 53, 3, 24, 9)) (tr_n 54 (tr_l 54 (.iload_n 1, 1, 0, 0)) (tr_l 55 (.iaload, 1, 0, 0))))) (tr_n 59 (tr_n 56 (tr_l 56 (.goto 8, 3, 64, 0)) (tr_l 59 (.aload_n 0, 1, 0, 0))) (tr_n 60 (tr_l 60 (.iload_n 1, 1, 0, 0)) (tr_n 61 (tr_l 61 (.invokevirtual 168, 3, 110, 9)) (tr_l 64 (.ireturn, 1, 1, 0))))))))
def c_M_unit : Nat → Option eg_E := (tr_n 8 (tr_n 2 (tr_n 0 (tr_l 0 (.iload_n 1, 1, 0, 0)) (tr_n 1 (tr_l 1 (.iconst 0, 1, 0, 0)) (tr_l 2 (.aload_n 0, 1, 0, 0)))) (tr_n 6 (tr_n 3 (tr_l 3 (.getfield 194, 3, 27, 9)) (tr_l 6 (.iconst 1, 1, 0, 0))) (tr_n 7 (tr_l 7 (.isub, 1, 0, 0)) (tr_l 8 (.invokestatic 80, 3, 87, 0))))) (tr_n 18 (tr_n 14 (tr_n 11 (tr_l 11 (.ifCond .eq 12, 3, 23, 0)) (tr_l 14 (.aload_n 0, 1, 0, 0))) (tr_n 15 (tr_l 15 (.getfield 56, 3, 26, 9)) (tr_l 18 (.iload_n 1, 1, 0, 0)))) (tr_n 20 (tr_n 19 (tr_l 19 (.iaload, 1, 0, 0)) (tr_l 20 (.goto 5, 3, 25, 0))) (tr_n 23 (tr_l 23 (.bipush (-2), 2, 0, 0)) (tr_l 25 (.ireturn, 1, 1, 0))))))
def c_M_set : Nat → Option eg_E := (tr_n 33 (tr_n 14 (tr_n 3 (tr_n 1 (tr_n 0 (tr_l 0 (.iload_n 1, 1, 0, 0)) (tr_l 1 (.iconst 0, 1, 0, 0))) (tr_n 2 (tr_l 2 (.aload_n 0, 1, 0, 0)) (tr_l 3 (.getfield 194, 3, 27, 9)))) (tr_n 9 (tr_n 6 (tr_l 6 (.invokestatic 80, 3, 87, 0)) (tr_l 9 (.ifCond .eq 13, 3, 22, 0))) (tr_n 12 (tr_l 12 (.iload_n 2, 1, 0, 0)) (tr_n 13 (tr_l 13 (.iconst 0, 1, 0, 0)) (tr_l 14 (.ldc 183, 2, 65535, 0)))))) (tr_n 23 (tr_n 19 (tr_n 16 (tr_l 16 (.invokestatic 80, 3, 87, 0)) (tr_l 19 (.ifCond .ne 5, 3, 24, 0))) (tr_n 22 (tr_l 22 (.iconst (-1), 1, 0, 0)) (tr_l 23 (.ireturn, 1, 1, 0)))) (tr_n 25 (tr_n 24 (tr_l 24 (.iload_n 1, 1, 0, 0)) (tr_l 25 (.sipush 200, 3, 0, 0))) (tr_n 28 (tr_l 28 (.if_icmp .ne 6, 3, 34, 0)) (tr_n 31 (tr_l 31 (.bipush (-3), 2, 0, 0)) (tr_l 33 (.ireturn, 1, 1, 0))))))) (tr_n 46 (tr_n 39 (tr_n 35 (tr_n 34 (tr_l 34 (.aload_n 0, 1, 0, 0)) (tr_l 35 (.getfield 56, 3, 26, 9))) (tr_n 38 (tr_l 38 (.iload_n 1, 1, 0, 0)) (tr_l 39 (.iload_n 2, 1, 0, 0)))) (tr_n 41 (tr_n 40 (tr_l 40 (.iastore, 1, 0, 0)) (tr_l 41 (.iload_n 1, 1, 0, 0))) (tr_n 42 (tr_l 42 (.aload_n 0, 1, 0, 0)) (tr_n 43 (tr_l 43 (.getfield 194, 3, 27, 9)) (tr_l 46 (.if_icmp .ne 13, 3, 59, 0)))))) (tr_n 54 (tr_n 50 (tr_n 49 (tr_l 49 (.aload_n 0, 1, 0, 0)) (tr_l 50 (.dup, 1, 0, 0))) (tr_n 51 (tr_l 51 (.getfield 194, 3, 27, 9)) (tr_l 54 (.iconst 1, 1, 0, 0)))) (tr_n 56 (tr_n 55 (tr_l 55 (.iadd, 1, 0, 0)) (tr_l 56 (.putfield 194, 3, 27, 9))) (tr_n 59 (tr_l 59 (.aload_n 0, 1, 0, 0)) (tr_n 60 (tr_l 60 (.getfield 194, 3, 27, 9)) (tr_l 63 (.ireturn, 1, 1, 0))))))))
def c_M_read : Nat → Option eg_E := (tr_n 128 (tr_n 78 (tr_n 17 (tr_n 7 (tr_n 1 (tr_n 0 (tr_l 0 (.iload_n 2, 1, 0, 0)) (tr_l 1 (.iconst 0, 1, 0, 0))) (tr_n 2 (tr_l 2 (.bipush 11, 2, 0, 0)) (tr_n 4 (tr_l 4 (.invokestatic 80, 3, 87, 0)) (tr_l 7 (.ifCond .ne 5, 3, 12, 0))))) (tr_n 12 (tr_n 10 (tr_l 10 (.iconst (-1), 1, 0, 0)) (tr_n 11 (tr_l 11 (.ireturn, 1, 1, 0)) (tr_l 12 (.aload_n 0, 1, 0, 0)))) (tr_n 13 (tr_l 13 (.iload_n 1, 1, 0, 0)) (tr_n 14 (tr_l 14 (.invokevirtual 241, 3, 120, 9)) (tr_l 17 (.istore_n 3, 1, 0, 0)))))) (tr_n 25 (tr_n 19 (tr_n 18 (tr_l 18 (.iload_n 3, 1, 0, 0)) (tr_l 19 (.ifCond .ne 6, 3, 25, 0))) (tr_n 22 (tr_l 22 (.bipush (-7), 2, 0, 0)) (tr_n 24 (tr_l 24 (.ireturn, 1, 1, 0)) (tr_l 25 (.iload_n 2, 1, 0, 0))))) (tr_n 73 (tr_n 26 (tr_l 26 (.tableswitch 164 0 7 #[46, 51, 56, 73, 90, 107, 126, 147], 46, 0, 0)) (tr_n 72 (tr_l 72 (.aload_n 0, 1, 0, 0)) (tr_l 73 (.getfield 213, 3, 28, 9)))) (tr_n 76 (tr_l 76 (.ireturn, 1, 1, 0)) (tr_n 77 (tr_l 77 (.aload_n 0, 1, 0, 0)) (tr_l 78 (.getfield 216, 3, 29, 9))))))) (tr_n 100 (tr_n 89 (tr_n 82 (tr_n 81 (tr_l 81 (.ireturn, 1, 1, 0)) (tr_l 82 (.aload_n 0, 1, 0, 0))) (tr_n 83 (tr_l 83 (.getfield 219, 3, 30, 9)) (tr_n 86 (tr_l 86 (.ifCond .ge 8, 3, 94, 0)) (tr_l 89 (.bipush (-2), 2, 0, 0))))) (tr_n 95 (tr_n 91 (tr_l 91 (.goto 7, 3, 98, 0)) (tr_n 94 (tr_l 94 (.aload_n 0, 1, 0, 0)) (tr_l 95 (.getfield 219, 3, 30, 9)))) (tr_n 98 (tr_l 98 (.ireturn, 1, 1, 0)) (tr_n 99 (tr_l 99 (.aload_n 0, 1, 0, 0)) (tr_l 100 (.getfield 222, 3, 31, 9)))))) (tr_n 115 (tr_n 108 (tr_n 103 (tr_l 103 (.ifCond .ge 8, 3, 111, 0)) (tr_n 106 (tr_l 106 (.bipush (-2), 2, 0, 0)) (tr_l 108 (.goto 7, 3, 115, 0)))) (tr_n 111 (tr_l 111 (.aload_n 0, 1, 0, 0)) (tr_n 112 (tr_l 112 (.getfield 222, 3, 31, 9)) (tr_l 115 (.ireturn, 1, 1, 0))))) (tr_n 120 (tr_n 116 (tr_l 116 (.aload_n 0, 1, 0, 0)) (tr_n 117 (tr_l 117 (.getfield 225, 3, 32, 9)) (tr_l 120 (.ifCond .ge 8, 3, 128, 0)))) (tr_n 123 (tr_l 123 (.bipush (-2), 2, 0, 0)) (tr_n 125 (tr_l 125 (.goto 7, 3, 132, 0)) (tr_l 128 (.aload_n 0, 1, 0, 0)))))))) (tr_n 172 (tr_n 151 (tr_n 137 (tr_n 132 (tr_n 129 (tr_l 129 (.getfield 225, 3, 32, 9)) (tr_l 132 (.ireturn, 1, 1, 0))) (tr_n 133 (tr_l 133 (.aload_n 0, 1, 0, 0)) (tr_n 134 (tr_l 134 (.getfield 228, 3, 33, 9)) (tr_l 137 (.ldc 98, 2, 99999999, 0))))) (tr_n 144 (tr_n 139 (tr_l 139 (.if_icmp .ne 8, 3, 147, 0)) (tr_n 142 (tr_l 142 (.bipush (-2), 2, 0, 0)) (tr_l 144 (.goto 7, 3, 151, 0)))) (tr_n 147 (tr_l 147 (.aload_n 0, 1, 0, 0)) (tr_n 148 (tr_l 148 (.getfield 228, 3, 33, 9)) (tr_l 151 (.ireturn, 1, 1, 0)))))) (tr_n 161 (tr_n 153 (tr_n 152 (tr_l 152 (.aload_n 0, 1, 0, 0)) (tr_l 153 (.getfield 231, 3, 34, 9))) (tr_n 156 (tr_l 156 (.ldc 98, 2, 99999999, 0)) (tr_n 158 (tr_l 158 (.if_icmp .ne 8, 3, 166, 0)) (tr_l 161 (.bipush (-2), 2, 0, 0))))) (tr_n 167 (tr_n 163 (tr_l 163 (.goto 9, 3, 172, 0)) (tr_n 166 (tr_l 166 (.iload_n 1, 1, 0, 0)) (tr_l 167 (.aload_n 0, 1, 0, 0)))) (tr_n 168 (tr_l 168 (.getfield 231, 3, 34, 9)) (tr_n 171 (tr_l 171 (.iadd, 1, 0, 0)) (tr_l 172 (.ireturn, 1, 1, 0))))))) (tr_n 193 (tr_n 182 (tr_n 174 (tr_n 173 (tr_l 173 (.aload_n 0, 1, 0, 0)) (tr_l 174 (.getfield 234, 3, 35, 9))) (tr_n 177 (tr_l 177 (.ifCond .ge 8, 3, 185, 0)) (tr_n 180 (tr_l 180 (.bipush (-2), 2, 0, 0)) (tr_l 182 (.goto 7, 3, 189, 0))))) (tr_n 189 (tr_n 185 (tr_l 185 (.aload_n 0, 1, 0, 0)) (tr_n 186 (tr_l 186 (.getfield 234, 3, 35, 9)) (tr_l 189 (.ireturn, 1, 1, 0)))) (tr_n 190 (tr_l 190 (.iload_n 2, 1, 0, 0)) (tr_n 191 (tr_l 191 (.bipush 8, 2, 0, 0)) (tr_l 193 (.isub, 1, 0, 0)))))) (tr_n 203 (tr_n 198 (tr_n 194 (tr_l 194 (.aload_n 0, 1, 0, 0)) (tr_n 195 (tr_l 195 (.getfield 234, 3, 35, 9)) (tr_l 198 (.if_icmp .ge 15, 3, 213, 0)))) (tr_n 201 (tr_l 201 (.aload_n 0, 1, 0, 0)) (tr_n 202 (tr_l 202 (.iload_n 1, 1, 0, 0)) (tr_l 203 (.iload_n 2, 1, 0, 0))))) (tr_n 207 (tr_n 204 (tr_l 204 (.bipush 8, 2, 0, 0)) (tr_n 206 (tr_l 206 (.isub, 1, 0, 0)) (tr_l 207 (.invokevirtual 244, 3, 122, 9)))) (tr_n 210 (tr_l 210 (.goto 5, 3, 215, 0)) (tr_n 213 (tr_l 213 (.bipush (-2), 2, 0, 0)) (tr_l 215 (.ireturn, 1, 1, 0)))))))))
def c_M_look : Nat → Option eg_E := (tr_n 311 (tr_n 88 (tr_n 40 (tr_n 20 (tr_n 7 (tr_n 2 (tr_n 0 (tr_l 0 (.iload_n 1, 1, 0, 0)) (tr_n 1 (tr_l 1 (.iconst 0, 1, 0, 0)) (tr_l 2 (.aload_n 0, 1, 0, 0)))) (tr_n 3 (tr_l 3 (.getfield 194, 3, 27, 9)) (tr_n 6 (tr_l 6 (.iconst 1, 1, 0, 0)) (tr_l 7 (.isub, 1, 0, 0))))) (tr_n 14 (tr_n 8 (tr_l 8 (.invokestatic 80, 3, 87, 0)) (tr_n 11 (tr_l 11 (.ifCond .ne 5, 3, 16, 0)) (tr_l 14 (.iconst 0, 1, 0, 0)))) (tr_n 16 (tr_n 15 (tr_l 15 (.ireturn, 1, 2, 0)) (tr_l 16 (.aload_n 0, 1, 0, 0))) (tr_n 17 (tr_l 17 (.getfield 56, 3, 26, 9)) (tr_l 20 (.iload_n 1, 1, 0, 0)))))) (tr_n 27 (tr_n 23 (tr_n 21 (tr_l 21 (.iaload, 1, 0, 0)) (tr_n 22 (tr_l 22 (.istore_n 2, 1, 0, 0)) (tr_l 23 (.iload_n 1, 1, 0, 0)))) (tr_n 25 (tr_n 24 (tr_l 24 (.iconst 1, 1, 0, 0)) (tr_l 25 (.iadd, 1, 0, 0))) (tr_n 26 (tr_l 26 (.aload_n 0, 1, 0, 0)) (tr_l 27 (.getfield 194, 3, 27, 9))))) (tr_n 34 (tr_n 30 (tr_l 30 (.if_icmp .ge 14, 3, 44, 0)) (tr_n 33 (tr_l 33 (.aload_n 0, 1, 0, 0)) (tr_l 34 (.getfield 56, 3, 26, 9)))) (tr_n 38 (tr_n 37 (tr_l 37 (.iload_n 1, 1, 0, 0)) (tr_l 38 (.iconst 1, 1, 0, 0))) (tr_n 39 (tr_l 39 (.iadd, 1, 0, 0)) (tr_l 40 (.iaload, 1, 0, 0))))))) (tr_n 62 (tr_n 51 (tr_n 45 (tr_n 41 (tr_l 41 (.goto 4, 3, 45, 0)) (tr_n 44 (tr_l 44 (.iconst 0, 1, 0, 0)) (tr_l 45 (.istore_n 3, 1, 0, 0)))) (tr_n 47 (tr_n 46 (tr_l 46 (.aload_n 0, 1, 0, 0)) (tr_l 47 (.iload_n 2, 1, 0, 0))) (tr_n 48 (tr_l 48 (.sipush 256, 3, 0, 0)) (tr_l 51 (.irem, 1, 0, 0))))) (tr_n 56 (tr_n 52 (tr_l 52 (.putfield 213, 3, 28, 9)) (tr_n 55 (tr_l 55 (.aload_n 0, 1, 0, 0)) (tr_l 56 (.iconst 2, 1, 0, 0)))) (tr_n 60 (tr_n 57 (tr_l 57 (.putfield 216, 3, 29, 9)) (tr_l 60 (.aload_n 0, 1, 0, 0))) (tr_n 61 (tr_l 61 (.iload_n 2, 1, 0, 0)) (tr_l 62 (.sipush 256, 3, 0, 0)))))) (tr_n 74 (tr_n 68 (tr_n 65 (tr_l 65 (.idiv, 1, 0, 0)) (tr_n 66 (tr_l 66 (.bipush 16, 2, 0, 0)) (tr_l 68 (.irem, 1, 0, 0)))) (tr_n 72 (tr_n 69 (tr_l 69 (.putfield 219, 3, 30, 9)) (tr_l 72 (.aload_n 0, 1, 0, 0))) (tr_n 73 (tr_l 73 (.iconst (-1), 1, 0, 0)) (tr_l 74 (.putfield 222, 3, 31, 9))))) (tr_n 79 (tr_n 77 (tr_l 77 (.aload_n 0, 1, 0, 0)) (tr_n 78 (tr_l 78 (.iconst (-1), 1, 0, 0)) (tr_l 79 (.putfield 225, 3, 32, 9)))) (tr_n 83 (tr_n 82 (tr_l 82 (.aload_n 0, 1, 0, 0)) (tr_l 83 (.ldc 98, 2, 99999999, 0))) (tr_n 85 (tr_l 85 (.putfield 228, 3, 33, 9)) (tr_l 88 (.aload_n 0, 1, 0, 0)))))))) (tr_n 264 (tr_n 238 (tr_n 99 (tr_n 94 (tr_n 89 (tr_l 89 (.ldc 98, 2, 99999999, 0)) (tr_n 91 (tr_l 91 (.putfield 231, 3, 34, 9)) (tr_l 94 (.aload_n 0, 1, 0, 0)))) (tr_n 95 (tr_l 95 (.iconst (-1), 1, 0, 0)) (tr_n 96 (tr_l 96 (.putfield 234, 3, 35, 9)) (tr_l 99 (.aload_n 0, 1, 0, 0))))) (tr_n 232 (tr_n 100 (tr_l 100 (.getfield 213, 3, 28, 9)) (tr_n 103 (tr_l 103 (.lookupswitch 405 #[(0, 129), (1, 215), (15, 232), (18, 240), (19, 262), (40, 324), (41, 352), (43, 392), (50, 370), (51, 370), (56, 392), (144, 275), (145, 275), (146, 275), (216, 298)], 129, 0, 0)) (tr_l 232 (.iload_n 2, 1, 0, 0)))) (tr_n 236 (tr_n 233 (tr_l 233 (.ifCond .ne 11, 3, 244, 0)) (tr_l 236 (.aload_n 0, 1, 0, 0))) (tr_n 237 (tr_l 237 (.iconst 1, 1, 0, 0)) (tr_l 238 (.putfield 216, 3, 29, 9)))))) (tr_n 253 (tr_n 245 (tr_n 241 (tr_l 241 (.goto 69, 3, 310, 0)) (tr_n 244 (tr_l 244 (.iload_n 2, 1, 0, 0)) (tr_l 245 (.sipush 256, 3, 0, 0)))) (tr_n 251 (tr_n 248 (tr_l 248 (.if_icmp .ne 24, 3, 272, 0)) (tr_l 251 (.iload_n 3, 1, 0, 0))) (tr_n 252 (tr_l 252 (.iconst 1, 1, 0, 0)) (tr_l 253 (.iconst 4, 1, 0, 0))))) (tr_n 260 (tr_n 254 (tr_l 254 (.invokestatic 80, 3, 87, 0)) (tr_n 257 (tr_l 257 (.ifCond .eq 15, 3, 272, 0)) (tr_l 260 (.iload_n 1, 1, 0, 0)))) (tr_n 262 (tr_n 261 (tr_l 261 (.iconst 3, 1, 0, 0)) (tr_l 262 (.iadd, 1, 0, 0))) (tr_n 263 (tr_l 263 (.iload_n 3, 1, 0, 0)) (tr_l 264 (.iadd, 1, 0, 0))))))) (tr_n 288 (tr_n 275 (tr_n 269 (tr_n 265 (tr_l 265 (.aload_n 0, 1, 0, 0)) (tr_n 266 (tr_l 266 (.getfield 194, 3, 27, 9)) (tr_l 269 (.if_icmp .le 5, 3, 274, 0)))) (tr_n 273 (tr_n 272 (tr_l 272 (.iconst 0, 1, 0, 0)) (tr_l 273 (.ireturn, 1, 2, 0))) (tr_n 274 (tr_l 274 (.aload_n 0, 1, 0, 0)) (tr_l 275 (.sipush 256, 3, 0, 0))))) (tr_n 282 (tr_n 278 (tr_l 278 (.putfield 213, 3, 28, 9)) (tr_n 281 (tr_l 281 (.aload_n 0, 1, 0, 0)) (tr_l 282 (.iconst 3, 1, 0, 0)))) (tr_n 284 (tr_n 283 (tr_l 283 (.iload_n 3, 1, 0, 0)) (tr_l 284 (.iadd, 1, 0, 0))) (tr_n 285 (tr_l 285 (.putfield 216, 3, 29, 9)) (tr_l 288 (.aload_n 0, 1, 0, 0)))))) (tr_n 299 (tr_n 293 (tr_n 289 (tr_l 289 (.iload_n 3, 1, 0, 0)) (tr_n 290 (tr_l 290 (.putfield 234, 3, 35, 9)) (tr_l 293 (.aload_n 0, 1, 0, 0)))) (tr_n 295 (tr_n 294 (tr_l 294 (.aload_n 0, 1, 0, 0)) (tr_l 295 (.getfield 56, 3, 26, 9))) (tr_n 298 (tr_l 298 (.iload_n 1, 1, 0, 0)) (tr_l 299 (.iconst 2, 1, 0, 0))))) (tr_n 302 (tr_n 300 (tr_l 300 (.iadd, 1, 0, 0)) (tr_n 301 (tr_l 301 (.iaload, 1, 0, 0)) (tr_l 302 (.ldc 237, 2, 65536, 0)))) (tr_n 307 (tr_n 304 (tr_l 304 (.invokestatic 238, 3, 121, 0)) (tr_l 307 (.putfield 228, 3, 33, 9))) (tr_n 310 (tr_l 310 (.aload_n 0, 1, 0, 0)) (tr_l 311 (.iconst (-1), 1, 0, 0))))))))) (tr_n 415 (tr_n 365 (tr_n 336 (tr_n 323 (tr_n 318 (tr_n 312 (tr_l 312 (.putfield 219, 3, 30, 9)) (tr_n 315 (tr_l 315 (.goto 195, 3, 510, 0)) (tr_l 318 (.aload_n 0, 1, 0, 0)))) (tr_n 319 (tr_l 319 (.iload_n 2, 1, 0, 0)) (tr_n 320 (tr_l 320 (.sipush 4096, 3, 0, 0)) (tr_l 323 (.idiv, 1, 0, 0))))) (tr_n 328 (tr_n 324 (tr_l 324 (.putfield 222, 3, 31, 9)) (tr_n 327 (tr_l 327 (.aload_n 0, 1, 0, 0)) (tr_l 328 (.iconst 1, 1, 0, 0)))) (tr_n 332 (tr_n 329 (tr_l 329 (.putfield 216, 3, 29, 9)) (tr_l 332 (.goto 178, 3, 510, 0))) (tr_n 335 (tr_l 335 (.aload_n 0, 1, 0, 0)) (tr_l 336 (.iconst 1, 1, 0, 0)))))) (tr_n 349 (tr_n 343 (tr_n 337 (tr_l 337 (.putfield 216, 3, 29, 9)) (tr_n 340 (tr_l 340 (.goto 170, 3, 510, 0)) (tr_l 343 (.aload_n 0, 1, 0, 0)))) (tr_n 345 (tr_n 344 (tr_l 344 (.iload_n 2, 1, 0, 0)) (tr_l 345 (.sipush 4096, 3, 0, 0))) (tr_n 348 (tr_l 348 (.idiv, 1, 0, 0)) (tr_l 349 (.bipush 16, 2, 0, 0))))) (tr_n 357 (tr_n 351 (tr_l 351 (.invokestatic 238, 3, 121, 0)) (tr_n 354 (tr_l 354 (.putfield 228, 3, 33, 9)) (tr_l 357 (.aload_n 0, 1, 0, 0)))) (tr_n 359 (tr_n 358 (tr_l 358 (.iconst 1, 1, 0, 0)) (tr_l 359 (.putfield 216, 3, 29, 9))) (tr_n 362 (tr_l 362 (.goto 148, 3, 510, 0)) (tr_l 365 (.aload_n 0, 1, 0, 0))))))) (tr_n 391 (tr_n 379 (tr_n 369 (tr_n 366 (tr_l 366 (.iload_n 3, 1, 0, 0)) (tr_n 367 (tr_l 367 (.ldc 237, 2, 65536, 0)) (tr_l 369 (.invokestatic 238, 3, 121, 0)))) (tr_n 375 (tr_n 372 (tr_l 372 (.putfield 228, 3, 33, 9)) (tr_l 375 (.goto 135, 3, 510, 0))) (tr_n 378 (tr_l 378 (.aload_n 0, 1, 0, 0)) (tr_l 379 (.iload_n 3, 1, 0, 0))))) (tr_n 383 (tr_n 380 (tr_l 380 (.bipush 16, 2, 0, 0)) (tr_n 382 (tr_l 382 (.irem, 1, 0, 0)) (tr_l 383 (.putfield 222, 3, 31, 9)))) (tr_n 387 (tr_n 386 (tr_l 386 (.aload_n 0, 1, 0, 0)) (tr_l 387 (.iload_n 3, 1, 0, 0))) (tr_n 388 (tr_l 388 (.sipush 256, 3, 0, 0)) (tr_l 391 (.idiv, 1, 0, 0)))))) (tr_n 403 (tr_n 395 (tr_n 392 (tr_l 392 (.bipush 16, 2, 0, 0)) (tr_n 394 (tr_l 394 (.irem, 1, 0, 0)) (tr_l 395 (.putfield 225, 3, 32, 9)))) (tr_n 401 (tr_n 398 (tr_l 398 (.goto 112, 3, 510, 0)) (tr_l 401 (.aload_n 0, 1, 0, 0))) (tr_n 402 (tr_l 402 (.iload_n 3, 1, 0, 0)) (tr_l 403 (.bipush 16, 2, 0, 0))))) (tr_n 409 (tr_n 405 (tr_l 405 (.irem, 1, 0, 0)) (tr_n 406 (tr_l 406 (.putfield 222, 3, 31, 9)) (tr_l 409 (.aload_n 0, 1, 0, 0)))) (tr_n 411 (tr_n 410 (tr_l 410 (.iload_n 3, 1, 0, 0)) (tr_l 411 (.sipush 256, 3, 0, 0))) (tr_n 414 (tr_l 414 (.idiv, 1, 0, 0)) (tr_l 415 (.sipush 256, 3, 0, 0)))))))) (tr_n 474 (tr_n 447 (tr_n 432 (tr_n 424 (tr_n 418 (tr_l 418 (.invokestatic 238, 3, 121, 0)) (tr_n 421 (tr_l 421 (.putfield 228, 3, 33, 9)) (tr_l 424 (.goto 86, 3, 510, 0)))) (tr_n 428 (tr_n 427 (tr_l 427 (.aload_n 0, 1, 0, 0)) (tr_l 428 (.iload_n 2, 1, 0, 0))) (tr_n 429 (tr_l 429 (.sipush 256, 3, 0, 0)) (tr_l 432 (.idiv, 1, 0, 0))))) (tr_n 439 (tr_n 433 (tr_l 433 (.sipush 256, 3, 0, 0)) (tr_n 436 (tr_l 436 (.invokestatic 238, 3, 121, 0)) (tr_l 439 (.putfield 231, 3, 34, 9)))) (tr_n 443 (tr_n 442 (tr_l 442 (.aload_n 0, 1, 0, 0)) (tr_l 443 (.iconst 1, 1, 0, 0))) (tr_n 444 (tr_l 444 (.putfield 216, 3, 29, 9)) (tr_l 447 (.aload_n 0, 1, 0, 0)))))) (tr_n 459 (tr_n 452 (tr_n 448 (tr_l 448 (.iconst (-1), 1, 0, 0)) (tr_n 449 (tr_l 449 (.putfield 219, 3, 30, 9)) (tr_l 452 (.goto 58, 3, 510, 0)))) (tr_n 456 (tr_n 455 (tr_l 455 (.aload_n 0, 1, 0, 0)) (tr_l 456 (.iload_n 3, 1, 0, 0))) (tr_n 457 (tr_l 457 (.ldc 237, 2, 65536, 0)) (tr_l 459 (.invokestatic 238, 3, 121, 0))))) (tr_n 466 (tr_n 462 (tr_l 462 (.putfield 231, 3, 34, 9)) (tr_n 465 (tr_l 465 (.aload_n 0, 1, 0, 0)) (tr_l 466 (.iconst (-1), 1, 0, 0)))) (tr_n 470 (tr_n 467 (tr_l 467 (.putfield 219, 3, 30, 9)) (tr_l 470 (.goto 40, 3, 510, 0))) (tr_n 473 (tr_l 473 (.aload_n 0, 1, 0, 0)) (tr_l 474 (.iload_n 2, 1, 0, 0))))))) (tr_n 502 (tr_n 486 (tr_n 479 (tr_n 475 (tr_l 475 (.sipush 4096, 3, 0, 0)) (tr_n 478 (tr_l 478 (.idiv, 1, 0, 0)) (tr_l 479 (.putfield 222, 3, 31, 9)))) (tr_n 483 (tr_n 482 (tr_l 482 (.aload_n 0, 1, 0, 0)) (tr_l 483 (.iload_n 3, 1, 0, 0))) (tr_n 484 (tr_l 484 (.ldc 237, 2, 65536, 0)) (tr_l 486 (.invokestatic 238, 3, 121, 0))))) (tr_n 495 (tr_n 489 (tr_l 489 (.putfield 231, 3, 34, 9)) (tr_n 492 (tr_l 492 (.goto 18, 3, 510, 0)) (tr_l 495 (.aload_n 0, 1, 0, 0)))) (tr_n 497 (tr_n 496 (tr_l 496 (.iload_n 3, 1, 0, 0)) (tr_l 497 (.ldc 237, 2, 65536, 0))) (tr_n 499 (tr_l 499 (.invokestatic 238, 3, 121, 0)) (tr_l 502 (.putfield 231, 3, 34, 9)))))) (tr_n 515 (tr_n 509 (tr_n 505 (tr_l 505 (.goto 5, 3, 510, 0)) (tr_n 508 (tr_l 508 (.iconst 0, 1, 0, 0)) (tr_l 509 (.ireturn, 1, 2, 0)))) (tr_n 511 (tr_n 510 (tr_l 510 (.iload_n 1, 1, 0, 0)) (tr_l 511 (.aload_n 0, 1, 0, 0))) (tr_n 512 (tr_l 512 (.getfield 216, 3, 29, 9)) (tr_l 515 (.iadd, 1, 0, 0))))) (tr_n 520 (tr_n 516 (tr_l 516 (.aload_n 0, 1, 0, 0)) (tr_n 517 (tr_l 517 (.getfield 194, 3, 27, 9)) (tr_l 520 (.if_icmp .gt 7, 3, 527, 0)))) (tr_n 524 (tr_n 523 (tr_l 523 (.iconst 1, 1, 0, 0)) (tr_l 524 (.goto 4, 3, 528, 0))) (tr_n 527 (tr_l 527 (.iconst 0, 1, 0, 0)) (tr_l 528 (.ireturn, 1, 2, 0))))))))))
def c_M_signed : Nat → Option eg_E := (tr_n 4 (tr_n 1 (tr_n 0 (tr_l 0 (.iload_n 0, 1, 0, 0)) (tr_l 1 (.iload_n 1, 1, 0, 0))) (tr_n 2 (tr_l 2 (.iconst 2, 1, 0, 0)) (tr_n 3 (tr_l 3 (.idiv, 1, 0, 0)) (tr_l 4 (.if_icmp .lt 9, 3, 13, 0))))) (tr_n 9 (tr_n 7 (tr_l 7 (.iload_n 0, 1, 0, 0)) (tr_n 8 (tr_l 8 (.iload_n 1, 1, 0, 0)) (tr_l 9 (.isub, 1, 0, 0)))) (tr_n 10 (tr_l 10 (.goto 4, 3, 14, 0)) (tr_n 13 (tr_l 13 (.iload_n 0, 1, 0, 0)) (tr_l 14 (.ireturn, 1, 1, 0))))))
def c_M_caseAt : Nat → Option eg_E := (tr_n 6 (tr_n 1 (tr_n 0 (tr_l 0 (.aload_n 0, 1, 0, 0)) (tr_l 1 (.getfield 56, 3, 26, 9))) (tr_n 4 (tr_l 4 (.iload_n 1, 1, 0, 0)) (tr_n 5 (tr_l 5 (.iconst 3, 1, 0, 0)) (tr_l 6 (.iadd, 1, 0, 0))))) (tr_n 9 (tr_n 7 (tr_l 7 (.iload_n 2, 1, 0, 0)) (tr_n 8 (tr_l 8 (.iadd, 1, 0, 0)) (tr_l 9 (.iaload, 1, 0, 0)))) (tr_n 10 (tr_l 10 (.ldc 237, 2, 65536, 0)) (tr_n 12 (tr_l 12 (.invokestatic 238, 3, 121, 0)) (tr_l 15 (.ireturn, 1, 1, 0))))))
def c_M_check : Nat → Option eg_E := (tr_n 91 (tr_n 45 (tr_n 21 (tr_n 10 (tr_n 2 (tr_n 0 (tr_l 0 (.iconst 0, 1, 0, 0)) (tr_n 1 (tr_l 1 (.istore_n 1, 1, 0, 0)) (tr_l 2 (.iload_n 1, 1, 0, 0)))) (tr_n 6 (tr_n 3 (tr_l 3 (.sipush 200, 3, 0, 0)) (tr_l 6 (.if_icmp .ge 23, 3, 29, 0))) (tr_n 9 (tr_l 9 (.aload_n 0, 1, 0, 0)) (tr_l 10 (.getfield 59, 3, 36, 9))))) (tr_n 15 (tr_n 13 (tr_l 13 (.iload_n 1, 1, 0, 0)) (tr_n 14 (tr_l 14 (.iconst 0, 1, 0, 0)) (tr_l 15 (.bastore, 1, 4, 0)))) (tr_n 17 (tr_n 16 (tr_l 16 (.aload_n 0, 1, 0, 0)) (tr_l 17 (.getfield 62, 3, 37, 9))) (tr_n 20 (tr_l 20 (.iload_n 1, 1, 0, 0)) (tr_l 21 (.iconst 0, 1, 0, 0)))))) (tr_n 32 (tr_n 26 (tr_n 22 (tr_l 22 (.bastore, 1, 4, 0)) (tr_n 23 (tr_l 23 (.iinc 1 1, 3, 0, 0)) (tr_l 26 (.goto (-24), 3, 2, 0)))) (tr_n 30 (tr_n 29 (tr_l 29 (.iconst 0, 1, 0, 0)) (tr_l 30 (.istore_n 1, 1, 0, 0))) (tr_n 31 (tr_l 31 (.iload_n 1, 1, 0, 0)) (tr_l 32 (.aload_n 0, 1, 0, 0))))) (tr_n 39 (tr_n 33 (tr_l 33 (.getfield 194, 3, 27, 9)) (tr_n 36 (tr_l 36 (.if_icmp .ge 53, 3, 89, 0)) (tr_l 39 (.aload_n 0, 1, 0, 0)))) (tr_n 41 (tr_n 40 (tr_l 40 (.iload_n 1, 1, 0, 0)) (tr_l 41 (.invokevirtual 241, 3, 120, 9))) (tr_n 44 (tr_l 44 (.istore_n 2, 1, 0, 0)) (tr_l 45 (.iload_n 2, 1, 0, 0))))))) (tr_n 67 (tr_n 56 (tr_n 50 (tr_n 46 (tr_l 46 (.ifCond .ne 5, 3, 51, 0)) (tr_n 49 (tr_l 49 (.iload_n 1, 1, 0, 0)) (tr_l 50 (.ireturn, 1, 1, 0)))) (tr_n 52 (tr_n 51 (tr_l 51 (.aload_n 0, 1, 0, 0)) (tr_l 52 (.getfield 59, 3, 36, 9))) (tr_n 55 (tr_l 55 (.iload_n 1, 1, 0, 0)) (tr_l 56 (.iconst 1, 1, 0, 0))))) (tr_n 59 (tr_n 57 (tr_l 57 (.bastore, 1, 4, 0)) (tr_n 58 (tr_l 58 (.aload_n 0, 1, 0, 0)) (tr_l 59 (.getfield 62, 3, 37, 9)))) (tr_n 63 (tr_n 62 (tr_l 62 (.iload_n 1, 1, 0, 0)) (tr_l 63 (.aload_n 0, 1, 0, 0))) (tr_n 64 (tr_l 64 (.getfield 213, 3, 28, 9)) (tr_l 67 (.sipush 256, 3, 0, 0)))))) (tr_n 80 (tr_n 74 (tr_n 70 (tr_l 70 (.if_icmp .ne 7, 3, 77, 0)) (tr_n 73 (tr_l 73 (.iconst 1, 1, 0, 0)) (tr_l 74 (.goto 4, 3, 78, 0)))) (tr_n 78 (tr_n 77 (tr_l 77 (.iconst 0, 1, 0, 0)) (tr_l 78 (.bastore, 1, 4, 0))) (tr_n 79 (tr_l 79 (.iload_n 1, 1, 0, 0)) (tr_l 80 (.aload_n 0, 1, 0, 0))))) (tr_n 85 (tr_n 81 (tr_l 81 (.getfield 216, 3, 29, 9)) (tr_n 84 (tr_l 84 (.iadd, 1, 0, 0)) (tr_l 85 (.istore_n 1, 1, 0, 0)))) (tr_n 89 (tr_n 86 (tr_l 86 (.goto (-55), 3, 31, 0)) (tr_l 89 (.iconst 0, 1, 0, 0))) (tr_n 90 (tr_l 90 (.istore_n 1, 1, 0, 0)) (tr_l 91 (.iload_n 1, 1, 0, 0)))))))) (tr_n 142 (tr_n 118 (tr_n 104 (tr_n 96 (tr_n 92 (tr_l 92 (.aload_n 0, 1, 0, 0)) (tr_n 93 (tr_l 93 (.getfield 194, 3, 27, 9)) (tr_l 96 (.if_icmp .ge 94, 3, 190, 0)))) (tr_n 100 (tr_n 99 (tr_l 99 (.aload_n 0, 1, 0, 0)) (tr_l 100 (.iload_n 1, 1, 0, 0))) (tr_n 101 (tr_l 101 (.invokevirtual 241, 3, 120, 9)) (tr_l 104 (.pop, 1, 0, 0))))) (tr_n 109 (tr_n 105 (tr_l 105 (.aload_n 0, 1, 0, 0)) (tr_n 106 (tr_l 106 (.getfield 231, 3, 34, 9)) (tr_l 109 (.ldc 98, 2, 99999999, 0)))) (tr_n 114 (tr_n 111 (tr_l 111 (.if_icmp .ne 6, 3, 117, 0)) (tr_l 114 (.goto 66, 3, 180, 0))) (tr_n 117 (tr_l 117 (.iload_n 1, 1, 0, 0)) (tr_l 118 (.aload_n 0, 1, 0, 0)))))) (tr_n 127 (tr_n 123 (tr_n 119 (tr_l 119 (.getfield 231, 3, 34, 9)) (tr_n 122 (tr_l 122 (.iadd, 1, 0, 0)) (tr_l 123 (.istore_n 2, 1, 0, 0)))) (tr_n 125 (tr_n 124 (tr_l 124 (.iload_n 2, 1, 0, 0)) (tr_l 125 (.iconst 0, 1, 0, 0))) (tr_n 126 (tr_l 126 (.aload_n 0, 1, 0, 0)) (tr_l 127 (.getfield 194, 3, 27, 9))))) (tr_n 132 (tr_n 130 (tr_l 130 (.iconst 1, 1, 0, 0)) (tr_n 131 (tr_l 131 (.isub, 1, 0, 0)) (tr_l 132 (.invokestatic 80, 3, 87, 0)))) (tr_n 138 (tr_n 135 (tr_l 135 (.ifCond .eq 37, 3, 172, 0)) (tr_l 138 (.aload_n 0, 1, 0, 0))) (tr_n 139 (tr_l 139 (.getfield 213, 3, 28, 9)) (tr_l 142 (.bipush 43, 2, 0, 0))))))) (tr_n 169 (tr_n 156 (tr_n 148 (tr_n 144 (tr_l 144 (.if_icmp .ne 15, 3, 159, 0)) (tr_n 147 (tr_l 147 (.aload_n 0, 1, 0, 0)) (tr_l 148 (.getfield 62, 3, 37, 9)))) (tr_n 152 (tr_n 151 (tr_l 151 (.iload_n 2, 1, 0, 0)) (tr_l 152 (.baload, 1, 4, 0))) (tr_n 153 (tr_l 153 (.ifCond .eq 19, 3, 172, 0)) (tr_l 156 (.goto 12, 3, 168, 0))))) (tr_n 163 (tr_n 159 (tr_l 159 (.aload_n 0, 1, 0, 0)) (tr_n 160 (tr_l 160 (.getfield 59, 3, 36, 9)) (tr_l 163 (.iload_n 2, 1, 0, 0)))) (tr_n 165 (tr_n 164 (tr_l 164 (.baload, 1, 4, 0)) (tr_l 165 (.ifCond .eq 7, 3, 172, 0))) (tr_n 168 (tr_l 168 (.iconst 1, 1, 0, 0)) (tr_l 169 (.goto 4, 3, 173, 0)))))) (tr_n 180 (tr_n 174 (tr_n 172 (tr_l 172 (.iconst 0, 1, 0, 0)) (tr_n 173 (tr_l 173 (.istore_n 3, 1, 0, 0)) (tr_l 174 (.iload_n 3, 1, 0, 0)))) (tr_n 178 (tr_n 175 (tr_l 175 (.ifCond .ne 5, 3, 180, 0)) (tr_l 178 (.iload_n 1, 1, 0, 0))) (tr_n 179 (tr_l 179 (.ireturn, 1, 1, 0)) (tr_l 180 (.iload_n 1, 1, 0, 0))))) (tr_n 185 (tr_n 181 (tr_l 181 (.aload_n 0, 1, 0, 0)) (tr_n 182 (tr_l 182 (.getfield 216, 3, 29, 9)) (tr_l 185 (.iadd, 1, 0, 0)))) (tr_n 187 (tr_n 186 (tr_l 186 (.istore_n 1, 1, 0, 0)) (tr_l 187 (.goto (-96), 3, 91, 0))) (tr_n 190 (tr_l 190 (.bipush (-2), 2, 0, 0)) (tr_l 192 (.ireturn, 1, 1, 0)))))))))
def c_M_told : Nat → Option eg_E := (tr_n 113 (tr_n 55 (tr_n 24 (tr_n 10 (tr_n 2 (tr_n 0 (tr_l 0 (.aload_n 0, 1, 0, 0)) (tr_n 1 (tr_l 1 (.iload_n 1, 1, 0, 0)) (tr_l 2 (.invokevirtual 241, 3, 120, 9)))) (tr_n 6 (tr_n 5 (tr_l 5 (.istore_n 3, 1, 0, 0)) (tr_l 6 (.iload_n 3, 1, 0, 0))) (tr_n 7 (tr_l 7 (.ifCond .ne 6, 3, 13, 0)) (tr_l 10 (.bipush (-7), 2, 0, 0))))) (tr_n 14 (tr_n 12 (tr_l 12 (.ireturn, 1, 1, 0)) (tr_n 13 (tr_l 13 (.aload_n 0, 1, 0, 0)) (tr_l 14 (.getfield 213, 3, 28, 9)))) (tr_n 19 (tr_n 17 (tr_l 17 (.bipush 19, 2, 0, 0)) (tr_l 19 (.if_icmp .ne 8, 3, 27, 0))) (tr_n 22 (tr_l 22 (.bipush 18, 2, 0, 0)) (tr_l 24 (.goto 21, 3, 45, 0)))))) (tr_n 41 (tr_n 31 (tr_n 27 (tr_l 27 (.aload_n 0, 1, 0, 0)) (tr_n 28 (tr_l 28 (.getfield 213, 3, 28, 9)) (tr_l 31 (.bipush 41, 2, 0, 0)))) (tr_n 36 (tr_n 33 (tr_l 33 (.if_icmp .ne 8, 3, 41, 0)) (tr_l 36 (.bipush 40, 2, 0, 0))) (tr_n 38 (tr_l 38 (.goto 7, 3, 45, 0)) (tr_l 41 (.aload_n 0, 1, 0, 0))))) (tr_n 50 (tr_n 45 (tr_n 42 (tr_l 42 (.getfield 213, 3, 28, 9)) (tr_l 45 (.invokestatic 76, 3, 97, 0))) (tr_n 48 (tr_l 48 (.istore 4, 2, 0, 0)) (tr_l 50 (.iconst 1, 1, 0, 0)))) (tr_n 53 (tr_n 51 (tr_l 51 (.istore 5, 2, 0, 0)) (tr_l 53 (.aload_n 0, 1, 0, 0))) (tr_n 54 (tr_l 54 (.iconst 0, 1, 0, 0)) (tr_l 55 (.putfield 247, 3, 39, 9))))))) (tr_n 86 (tr_n 70 (tr_n 62 (tr_n 58 (tr_l 58 (.iload 4, 2, 0, 0)) (tr_n 60 (tr_l 60 (.iload 5, 2, 0, 0)) (tr_l 62 (.idiv, 1, 0, 0)))) (tr_n 65 (tr_n 63 (tr_l 63 (.bipush 27, 2, 0, 0)) (tr_l 65 (.if_icmp .lt 13, 3, 78, 0))) (tr_n 68 (tr_l 68 (.iload 5, 2, 0, 0)) (tr_l 70 (.bipush 27, 2, 0, 0))))) (tr_n 78 (tr_n 73 (tr_n 72 (tr_l 72 (.imul, 1, 0, 0)) (tr_l 73 (.istore 5, 2, 0, 0))) (tr_n 75 (tr_l 75 (.goto (-17), 3, 58, 0)) (tr_l 78 (.iload 5, 2, 0, 0)))) (tr_n 83 (tr_n 80 (tr_l 80 (.ifCond .le 28, 3, 108, 0)) (tr_l 83 (.aload_n 0, 1, 0, 0))) (tr_n 84 (tr_l 84 (.bipush 96, 2, 0, 0)) (tr_l 86 (.iload 4, 2, 0, 0)))))) (tr_n 98 (tr_n 91 (tr_n 88 (tr_l 88 (.iload 5, 2, 0, 0)) (tr_n 90 (tr_l 90 (.idiv, 1, 0, 0)) (tr_l 91 (.bipush 27, 2, 0, 0)))) (tr_n 94 (tr_n 93 (tr_l 93 (.irem, 1, 0, 0)) (tr_l 94 (.iadd, 1, 0, 0))) (tr_n 95 (tr_l 95 (.invokevirtual 250, 3, 125, 9)) (tr_l 98 (.iload 5, 2, 0, 0))))) (tr_n 105 (tr_n 102 (tr_n 100 (tr_l 100 (.bipush 27, 2, 0, 0)) (tr_l 102 (.idiv, 1, 0, 0))) (tr_n 103 (tr_l 103 (.istore 5, 2, 0, 0)) (tr_l 105 (.goto (-27), 3, 78, 0)))) (tr_n 109 (tr_n 108 (tr_l 108 (.aload_n 0, 1, 0, 0)) (tr_l 109 (.aload_n 0, 1, 0, 0))) (tr_n 110 (tr_l 110 (.getfield 219, 3, 30, 9)) (tr_l 113 (.invokevirtual 257, 3, 126, 9)))))))) (tr_n 171 (tr_n 141 (tr_n 126 (tr_n 118 (tr_n 116 (tr_l 116 (.aload_n 0, 1, 0, 0)) (tr_n 117 (tr_l 117 (.aload_n 0, 1, 0, 0)) (tr_l 118 (.getfield 222, 3, 31, 9)))) (tr_n 124 (tr_n 121 (tr_l 121 (.invokevirtual 257, 3, 126, 9)) (tr_l 124 (.aload_n 0, 1, 0, 0))) (tr_n 125 (tr_l 125 (.aload_n 0, 1, 0, 0)) (tr_l 126 (.getfield 225, 3, 32, 9))))) (tr_n 133 (tr_n 129 (tr_l 129 (.invokevirtual 257, 3, 126, 9)) (tr_n 132 (tr_l 132 (.aload_n 0, 1, 0, 0)) (tr_l 133 (.aload_n 0, 1, 0, 0)))) (tr_n 137 (tr_n 134 (tr_l 134 (.getfield 228, 3, 33, 9)) (tr_l 137 (.invokevirtual 260, 3, 128, 9))) (tr_n 140 (tr_l 140 (.aload_n 0, 1, 0, 0)) (tr_l 141 (.getfield 231, 3, 34, 9)))))) (tr_n 155 (tr_n 149 (tr_n 144 (tr_l 144 (.ldc 98, 2, 99999999, 0)) (tr_n 146 (tr_l 146 (.if_icmp .eq 13, 3, 159, 0)) (tr_l 149 (.aload_n 0, 1, 0, 0)))) (tr_n 151 (tr_n 150 (tr_l 150 (.iload_n 1, 1, 0, 0)) (tr_l 151 (.aload_n 0, 1, 0, 0))) (tr_n 152 (tr_l 152 (.getfield 231, 3, 34, 9)) (tr_l 155 (.iadd, 1, 0, 0))))) (tr_n 162 (tr_n 159 (tr_n 156 (tr_l 156 (.invokevirtual 260, 3, 128, 9)) (tr_l 159 (.iconst 0, 1, 0, 0))) (tr_n 160 (tr_l 160 (.istore 6, 2, 0, 0)) (tr_l 162 (.iload 6, 2, 0, 0)))) (tr_n 165 (tr_n 164 (tr_l 164 (.aload_n 0, 1, 0, 0)) (tr_l 165 (.getfield 234, 3, 35, 9))) (tr_n 168 (tr_l 168 (.if_icmp .ge 24, 3, 192, 0)) (tr_l 171 (.aload_n 0, 1, 0, 0))))))) (tr_n 201 (tr_n 183 (tr_n 175 (tr_n 172 (tr_l 172 (.iload_n 1, 1, 0, 0)) (tr_n 173 (tr_l 173 (.iload 6, 2, 0, 0)) (tr_l 175 (.invokevirtual 244, 3, 122, 9)))) (tr_n 180 (tr_n 178 (tr_l 178 (.istore 7, 2, 0, 0)) (tr_l 180 (.aload_n 0, 1, 0, 0))) (tr_n 181 (tr_l 181 (.iload 7, 2, 0, 0)) (tr_l 183 (.invokevirtual 260, 3, 128, 9))))) (tr_n 193 (tr_n 189 (tr_n 186 (tr_l 186 (.iinc 6 1, 3, 0, 0)) (tr_l 189 (.goto (-27), 3, 162, 0))) (tr_n 192 (tr_l 192 (.iload_n 2, 1, 0, 0)) (tr_l 193 (.iconst (-1), 1, 0, 0)))) (tr_n 197 (tr_n 194 (tr_l 194 (.if_icmp .ne 10, 3, 204, 0)) (tr_l 197 (.aload_n 0, 1, 0, 0))) (tr_n 198 (tr_l 198 (.getfield 247, 3, 39, 9)) (tr_l 201 (.goto 28, 3, 229, 0)))))) (tr_n 212 (tr_n 206 (tr_n 204 (tr_l 204 (.iload_n 2, 1, 0, 0)) (tr_n 205 (tr_l 205 (.iconst 0, 1, 0, 0)) (tr_l 206 (.aload_n 0, 1, 0, 0)))) (tr_n 210 (tr_n 207 (tr_l 207 (.getfield 247, 3, 39, 9)) (tr_l 210 (.iconst 1, 1, 0, 0))) (tr_n 211 (tr_l 211 (.isub, 1, 0, 0)) (tr_l 212 (.invokestatic 80, 3, 87, 0))))) (tr_n 222 (tr_n 218 (tr_n 215 (tr_l 215 (.ifCond .eq 12, 3, 227, 0)) (tr_l 218 (.aload_n 0, 1, 0, 0))) (tr_n 219 (tr_l 219 (.getfield 65, 3, 38, 9)) (tr_l 222 (.iload_n 2, 1, 0, 0)))) (tr_n 224 (tr_n 223 (tr_l 223 (.iaload, 1, 0, 0)) (tr_l 224 (.goto 5, 3, 229, 0))) (tr_n 227 (tr_l 227 (.bipush (-2), 2, 0, 0)) (tr_l 229 (.ireturn, 1, 1, 0)))))))))
def c_M_letter : Nat → Option eg_E := (tr_n 9 (tr_n 4 (tr_n 0 (tr_l 0 (.aload_n 0, 1, 0, 0)) (tr_n 1 (tr_l 1 (.getfield 65, 3, 38, 9)) (tr_l 4 (.aload_n 0, 1, 0, 0)))) (tr_n 5 (tr_l 5 (.getfield 247, 3, 39, 9)) (tr_n 8 (tr_l 8 (.iload_n 1, 1, 0, 0)) (tr_l 9 (.iastore, 1, 0, 0))))) (tr_n 12 (tr_n 10 (tr_l 10 (.aload_n 0, 1, 0, 0)) (tr_n 11 (tr_l 11 (.dup, 1, 0, 0)) (tr_l 12 (.getfield 247, 3, 39, 9)))) (tr_n 16 (tr_n 15 (tr_l 15 (.iconst 1, 1, 0, 0)) (tr_l 16 (.iadd, 1, 0, 0))) (tr_n 17 (tr_l 17 (.putfield 247, 3, 39, 9)) (tr_l 20 (.return_, 1, 0, 0))))))
def c_M_tellRegister : Nat → Option eg_E := (tr_n 8 (tr_n 4 (tr_n 0 (tr_l 0 (.iload_n 1, 1, 0, 0)) (tr_n 1 (tr_l 1 (.ifCond .ge 4, 3, 5, 0)) (tr_l 4 (.return_, 1, 0, 0)))) (tr_n 5 (tr_l 5 (.aload_n 0, 1, 0, 0)) (tr_n 6 (tr_l 6 (.bipush 32, 2, 0, 0)) (tr_l 8 (.invokevirtual 250, 3, 125, 9))))) (tr_n 14 (tr_n 11 (tr_l 11 (.aload_n 0, 1, 0, 0)) (tr_n 12 (tr_l 12 (.bipush 118, 2, 0, 0)) (tr_l 14 (.invokevirtual 250, 3, 125, 9)))) (tr_n 18 (tr_n 17 (tr_l 17 (.aload_n 0, 1, 0, 0)) (tr_l 18 (.iload_n 1, 1, 0, 0))) (tr_n 19 (tr_l 19 (.invokevirtual 254, 3, 127, 9)) (tr_l 22 (.return_, 1, 0, 0))))))
def c_M_tell : Nat → Option eg_E := (tr_n 31 (tr_n 13 (tr_n 6 (tr_n 1 (tr_n 0 (tr_l 0 (.iconst 1, 1, 0, 0)) (tr_l 1 (.istore_n 2, 1, 0, 0))) (tr_n 2 (tr_l 2 (.iload_n 1, 1, 0, 0)) (tr_n 3 (tr_l 3 (.ifCond .ge 8, 3, 11, 0)) (tr_l 6 (.iload_n 1, 1, 0, 0))))) (tr_n 8 (tr_n 7 (tr_l 7 (.ineg, 1, 0, 0)) (tr_l 8 (.goto 4, 3, 12, 0))) (tr_n 11 (tr_l 11 (.iload_n 1, 1, 0, 0)) (tr_n 12 (tr_l 12 (.istore_n 3, 1, 0, 0)) (tr_l 13 (.iload_n 1, 1, 0, 0)))))) (tr_n 23 (tr_n 17 (tr_n 14 (tr_l 14 (.ifCond .ge 9, 3, 23, 0)) (tr_l 17 (.aload_n 0, 1, 0, 0))) (tr_n 18 (tr_l 18 (.bipush 45, 2, 0, 0)) (tr_n 20 (tr_l 20 (.invokevirtual 250, 3, 125, 9)) (tr_l 23 (.iload_n 3, 1, 0, 0))))) (tr_n 25 (tr_n 24 (tr_l 24 (.iload_n 2, 1, 0, 0)) (tr_l 25 (.idiv, 1, 0, 0))) (tr_n 26 (tr_l 26 (.bipush 10, 2, 0, 0)) (tr_n 28 (tr_l 28 (.if_icmp .lt 11, 3, 39, 0)) (tr_l 31 (.iload_n 2, 1, 0, 0))))))) (tr_n 47 (tr_n 39 (tr_n 34 (tr_n 32 (tr_l 32 (.bipush 10, 2, 0, 0)) (tr_l 34 (.imul, 1, 0, 0))) (tr_n 35 (tr_l 35 (.istore_n 2, 1, 0, 0)) (tr_n 36 (tr_l 36 (.goto (-13), 3, 23, 0)) (tr_l 39 (.iload_n 2, 1, 0, 0))))) (tr_n 43 (tr_n 40 (tr_l 40 (.ifCond .le 24, 3, 64, 0)) (tr_l 43 (.aload_n 0, 1, 0, 0))) (tr_n 44 (tr_l 44 (.bipush 48, 2, 0, 0)) (tr_n 46 (tr_l 46 (.iload_n 3, 1, 0, 0)) (tr_l 47 (.iload_n 2, 1, 0, 0)))))) (tr_n 53 (tr_n 49 (tr_n 48 (tr_l 48 (.idiv, 1, 0, 0)) (tr_l 49 (.bipush 10, 2, 0, 0))) (tr_n 51 (tr_l 51 (.irem, 1, 0, 0)) (tr_n 52 (tr_l 52 (.iadd, 1, 0, 0)) (tr_l 53 (.invokevirtual 250, 3, 125, 9))))) (tr_n 59 (tr_n 56 (tr_l 56 (.iload_n 2, 1, 0, 0)) (tr_n 57 (tr_l 57 (.bipush 10, 2, 0, 0)) (tr_l 59 (.idiv, 1, 0, 0)))) (tr_n 60 (tr_l 60 (.istore_n 2, 1, 0, 0)) (tr_n 61 (tr_l 61 (.goto (-22), 3, 39, 0)) (tr_l 64 (.return_, 1, 0, 0))))))))
def c_M_tellNumber : Nat → Option eg_E := (tr_n 7 (tr_n 1 (tr_n 0 (tr_l 0 (.iload_n 1, 1, 0, 0)) (tr_l 1 (.ldc 98, 2, 99999999, 0))) (tr_n 3 (tr_l 3 (.if_icmp .ne 4, 3, 7, 0)) (tr_n 6 (tr_l 6 (.return_, 1, 0, 0)) (tr_l 7 (.aload_n 0, 1, 0, 0))))) (tr_n 13 (tr_n 8 (tr_l 8 (.bipush 32, 2, 0, 0)) (tr_n 10 (tr_l 10 (.invokevirtual 250, 3, 125, 9)) (tr_l 13 (.aload_n 0, 1, 0, 0)))) (tr_n 14 (tr_l 14 (.iload_n 1, 1, 0, 0)) (tr_n 15 (tr_l 15 (.invokevirtual 254, 3, 127, 9)) (tr_l 18 (.return_, 1, 0, 0))))))
def c_M_run : Nat → Option eg_E := (tr_n 26 (tr_n 12 (tr_n 4 (tr_n 1 (tr_n 0 (tr_l 0 (.iload_n 1, 1, 0, 0)) (tr_l 1 (.iconst 1, 1, 0, 0))) (tr_n 2 (tr_l 2 (.bipush 30, 2, 0, 0)) (tr_l 4 (.invokestatic 80, 3, 87, 0)))) (tr_n 10 (tr_n 7 (tr_l 7 (.ifCond .ne 5, 3, 12, 0)) (tr_l 10 (.iconst (-1), 1, 0, 0))) (tr_n 11 (tr_l 11 (.ireturn, 1, 1, 0)) (tr_l 12 (.iconst 0, 1, 0, 0))))) (tr_n 16 (tr_n 14 (tr_n 13 (tr_l 13 (.istore_n 2, 1, 0, 0)) (tr_l 14 (.iload_n 2, 1, 0, 0))) (tr_n 15 (tr_l 15 (.iload_n 1, 1, 0, 0)) (tr_l 16 (.if_icmp .ge 41, 3, 57, 0)))) (tr_n 20 (tr_n 19 (tr_l 19 (.aload_n 0, 1, 0, 0)) (tr_l 20 (.getfield 207, 3, 43, 9))) (tr_n 23 (tr_l 23 (.ifCond .ne 34, 3, 57, 0)) (tr_l 26 (.aload_n 0, 1, 0, 0)))))) (tr_n 40 (tr_n 34 (tr_n 28 (tr_n 27 (tr_l 27 (.aload_n 0, 1, 0, 0)) (tr_l 28 (.getfield 201, 3, 41, 9))) (tr_n 31 (tr_l 31 (.invokevirtual 241, 3, 120, 9)) (tr_l 34 (.istore_n 3, 1, 0, 0)))) (tr_n 36 (tr_n 35 (tr_l 35 (.iload_n 3, 1, 0, 0)) (tr_l 36 (.ifCond .ne 11, 3, 47, 0))) (tr_n 39 (tr_l 39 (.aload_n 0, 1, 0, 0)) (tr_l 40 (.iconst 2, 1, 0, 0))))) (tr_n 47 (tr_n 44 (tr_n 41 (tr_l 41 (.putfield 207, 3, 43, 9)) (tr_l 44 (.bipush (-7), 2, 0, 0))) (tr_n 46 (tr_l 46 (.ireturn, 1, 1, 0)) (tr_l 47 (.aload_n 0, 1, 0, 0)))) (tr_n 51 (tr_n 48 (tr_l 48 (.invokevirtual 266, 3, 130, 9)) (tr_l 51 (.iinc 2 1, 3, 0, 0))) (tr_n 54 (tr_l 54 (.goto (-40), 3, 14, 0)) (tr_n 57 (tr_l 57 (.iload_n 2, 1, 0, 0)) (tr_l 58 (.ireturn, 1, 1, 0))))))))
def c_M_step : Nat → Option eg_E := (tr_n 269 (tr_n 74 (tr_n 35 (tr_n 17 (tr_n 8 (tr_n 1 (tr_n 0 (tr_l 0 (.aload_n 0, 1, 0, 0)) (tr_l 1 (.getfield 201, 3, 41, 9))) (tr_n 4 (tr_l 4 (.aload_n 0, 1, 0, 0)) (tr_n 5 (tr_l 5 (.getfield 216, 3, 29, 9)) (tr_l 8 (.iadd, 1, 0, 0))))) (tr_n 10 (tr_n 9 (tr_l 9 (.istore_n 1, 1, 0, 0)) (tr_l 10 (.aload_n 0, 1, 0, 0))) (tr_n 11 (tr_l 11 (.getfield 219, 3, 30, 9)) (tr_n 14 (tr_l 14 (.ifCond .ge 7, 3, 21, 0)) (tr_l 17 (.iconst 0, 1, 0, 0)))))) (tr_n 26 (tr_n 21 (tr_n 18 (tr_l 18 (.goto 12, 3, 30, 0)) (tr_l 21 (.aload_n 0, 1, 0, 0))) (tr_n 22 (tr_l 22 (.getfield 68, 3, 40, 9)) (tr_n 25 (tr_l 25 (.aload_n 0, 1, 0, 0)) (tr_l 26 (.getfield 219, 3, 30, 9))))) (tr_n 30 (tr_n 29 (tr_l 29 (.iaload, 1, 0, 0)) (tr_l 30 (.istore_n 2, 1, 0, 0))) (tr_n 31 (tr_l 31 (.aload_n 0, 1, 0, 0)) (tr_n 32 (tr_l 32 (.getfield 222, 3, 31, 9)) (tr_l 35 (.ifCond .ge 7, 3, 42, 0))))))) (tr_n 53 (tr_n 46 (tr_n 39 (tr_n 38 (tr_l 38 (.iconst 0, 1, 0, 0)) (tr_l 39 (.goto 12, 3, 51, 0))) (tr_n 42 (tr_l 42 (.aload_n 0, 1, 0, 0)) (tr_n 43 (tr_l 43 (.getfield 68, 3, 40, 9)) (tr_l 46 (.aload_n 0, 1, 0, 0))))) (tr_n 50 (tr_n 47 (tr_l 47 (.getfield 222, 3, 31, 9)) (tr_l 50 (.iaload, 1, 0, 0))) (tr_n 51 (tr_l 51 (.istore_n 3, 1, 0, 0)) (tr_n 52 (tr_l 52 (.aload_n 0, 1, 0, 0)) (tr_l 53 (.getfield 225, 3, 32, 9)))))) (tr_n 64 (tr_n 59 (tr_n 56 (tr_l 56 (.ifCond .ge 7, 3, 63, 0)) (tr_l 59 (.iconst 0, 1, 0, 0))) (tr_n 60 (tr_l 60 (.goto 12, 3, 72, 0)) (tr_n 63 (tr_l 63 (.aload_n 0, 1, 0, 0)) (tr_l 64 (.getfield 68, 3, 40, 9))))) (tr_n 68 (tr_n 67 (tr_l 67 (.aload_n 0, 1, 0, 0)) (tr_l 68 (.getfield 225, 3, 32, 9))) (tr_n 71 (tr_l 71 (.iaload, 1, 0, 0)) (tr_n 72 (tr_l 72 (.istore 4, 2, 0, 0)) (tr_l 74 (.aload_n 0, 1, 0, 0)))))))) (tr_n 233 (tr_n 213 (tr_n 204 (tr_n 78 (tr_n 75 (tr_l 75 (.getfield 213, 3, 28, 9)) (tr_l 78 (.lookupswitch 321 #[(1, 122), (15, 303), (18, 135), (19, 135), (40, 217), (41, 217), (43, 295), (50, 230), (51, 252), (56, 274), (144, 151), (145, 167), (146, 183), (216, 199)], 122, 0, 0))) (tr_n 200 (tr_l 200 (.aload_n 0, 1, 0, 0)) (tr_n 201 (tr_l 201 (.getfield 68, 3, 40, 9)) (tr_l 204 (.aload_n 0, 1, 0, 0))))) (tr_n 208 (tr_n 205 (tr_l 205 (.getfield 219, 3, 30, 9)) (tr_l 208 (.iload_n 3, 1, 0, 0))) (tr_n 209 (tr_l 209 (.iastore, 1, 0, 0)) (tr_n 210 (tr_l 210 (.goto 189, 3, 399, 0)) (tr_l 213 (.aload_n 0, 1, 0, 0)))))) (tr_n 222 (tr_n 217 (tr_n 214 (tr_l 214 (.getfield 68, 3, 40, 9)) (tr_l 217 (.aload_n 0, 1, 0, 0))) (tr_n 218 (tr_l 218 (.getfield 219, 3, 30, 9)) (tr_n 221 (tr_l 221 (.aload_n 0, 1, 0, 0)) (tr_l 222 (.getfield 228, 3, 33, 9))))) (tr_n 226 (tr_n 225 (tr_l 225 (.iastore, 1, 0, 0)) (tr_l 226 (.goto 173, 3, 399, 0))) (tr_n 229 (tr_l 229 (.aload_n 0, 1, 0, 0)) (tr_n 230 (tr_l 230 (.getfield 68, 3, 40, 9)) (tr_l 233 (.aload_n 0, 1, 0, 0))))))) (tr_n 250 (tr_n 241 (tr_n 237 (tr_n 234 (tr_l 234 (.getfield 219, 3, 30, 9)) (tr_l 237 (.iload_n 3, 1, 0, 0))) (tr_n 238 (tr_l 238 (.iload 4, 2, 0, 0)) (tr_n 240 (tr_l 240 (.iadd, 1, 0, 0)) (tr_l 241 (.iastore, 1, 0, 0))))) (tr_n 245 (tr_n 242 (tr_l 242 (.goto 157, 3, 399, 0)) (tr_l 245 (.aload_n 0, 1, 0, 0))) (tr_n 246 (tr_l 246 (.getfield 68, 3, 40, 9)) (tr_n 249 (tr_l 249 (.aload_n 0, 1, 0, 0)) (tr_l 250 (.getfield 219, 3, 30, 9)))))) (tr_n 258 (tr_n 254 (tr_n 253 (tr_l 253 (.iload_n 3, 1, 0, 0)) (tr_l 254 (.iload 4, 2, 0, 0))) (tr_n 256 (tr_l 256 (.isub, 1, 0, 0)) (tr_n 257 (tr_l 257 (.iastore, 1, 0, 0)) (tr_l 258 (.goto 141, 3, 399, 0))))) (tr_n 262 (tr_n 261 (tr_l 261 (.aload_n 0, 1, 0, 0)) (tr_l 262 (.getfield 68, 3, 40, 9))) (tr_n 265 (tr_l 265 (.aload_n 0, 1, 0, 0)) (tr_n 266 (tr_l 266 (.getfield 219, 3, 30, 9)) (tr_l 269 (.iload_n 3, 1, 0, 0))))))))) (tr_n 340 (tr_n 304 (tr_n 286 (tr_n 277 (tr_n 272 (tr_n 270 (tr_l 270 (.iload 4, 2, 0, 0)) (tr_l 272 (.imul, 1, 0, 0))) (tr_n 273 (tr_l 273 (.iastore, 1, 0, 0)) (tr_n 274 (tr_l 274 (.goto 125, 3, 399, 0)) (tr_l 277 (.aload_n 0, 1, 0, 0))))) (tr_n 281 (tr_n 278 (tr_l 278 (.getfield 68, 3, 40, 9)) (tr_l 281 (.aload_n 0, 1, 0, 0))) (tr_n 282 (tr_l 282 (.getfield 219, 3, 30, 9)) (tr_n 285 (tr_l 285 (.iload_n 3, 1, 0, 0)) (tr_l 286 (.aload_n 0, 1, 0, 0)))))) (tr_n 295 (tr_n 290 (tr_n 287 (tr_l 287 (.getfield 228, 3, 33, 9)) (tr_l 290 (.iadd, 1, 0, 0))) (tr_n 291 (tr_l 291 (.iastore, 1, 0, 0)) (tr_n 292 (tr_l 292 (.goto 107, 3, 399, 0)) (tr_l 295 (.aload_n 0, 1, 0, 0))))) (tr_n 299 (tr_n 296 (tr_l 296 (.getfield 201, 3, 41, 9)) (tr_l 299 (.aload_n 0, 1, 0, 0))) (tr_n 300 (tr_l 300 (.getfield 231, 3, 34, 9)) (tr_n 303 (tr_l 303 (.iadd, 1, 0, 0)) (tr_l 304 (.istore_n 1, 1, 0, 0))))))) (tr_n 322 (tr_n 313 (tr_n 308 (tr_n 305 (tr_l 305 (.goto 94, 3, 399, 0)) (tr_l 308 (.iload_n 2, 1, 0, 0))) (tr_n 309 (tr_l 309 (.iload_n 3, 1, 0, 0)) (tr_n 310 (tr_l 310 (.if_icmp .ne 15, 3, 325, 0)) (tr_l 313 (.aload_n 0, 1, 0, 0))))) (tr_n 317 (tr_n 314 (tr_l 314 (.getfield 201, 3, 41, 9)) (tr_l 317 (.aload_n 0, 1, 0, 0))) (tr_n 318 (tr_l 318 (.getfield 231, 3, 34, 9)) (tr_n 321 (tr_l 321 (.iadd, 1, 0, 0)) (tr_l 322 (.goto 4, 3, 326, 0)))))) (tr_n 331 (tr_n 326 (tr_n 325 (tr_l 325 (.iload_n 1, 1, 0, 0)) (tr_l 326 (.istore_n 1, 1, 0, 0))) (tr_n 327 (tr_l 327 (.goto 72, 3, 399, 0)) (tr_n 330 (tr_l 330 (.iload_n 2, 1, 0, 0)) (tr_l 331 (.iload_n 3, 1, 0, 0))))) (tr_n 335 (tr_n 332 (tr_l 332 (.if_icmp .ge 15, 3, 347, 0)) (tr_l 335 (.aload_n 0, 1, 0, 0))) (tr_n 336 (tr_l 336 (.getfield 201, 3, 41, 9)) (tr_n 339 (tr_l 339 (.aload_n 0, 1, 0, 0)) (tr_l 340 (.getfield 231, 3, 34, 9)))))))) (tr_n 378 (tr_n 360 (tr_n 349 (tr_n 344 (tr_n 343 (tr_l 343 (.iadd, 1, 0, 0)) (tr_l 344 (.goto 4, 3, 348, 0))) (tr_n 347 (tr_l 347 (.iload_n 1, 1, 0, 0)) (tr_n 348 (tr_l 348 (.istore_n 1, 1, 0, 0)) (tr_l 349 (.goto 50, 3, 399, 0))))) (tr_n 353 (tr_n 352 (tr_l 352 (.iload_n 2, 1, 0, 0)) (tr_l 353 (.ifCond .ne 15, 3, 368, 0))) (tr_n 356 (tr_l 356 (.aload_n 0, 1, 0, 0)) (tr_n 357 (tr_l 357 (.getfield 201, 3, 41, 9)) (tr_l 360 (.aload_n 0, 1, 0, 0)))))) (tr_n 369 (tr_n 364 (tr_n 361 (tr_l 361 (.getfield 231, 3, 34, 9)) (tr_l 364 (.iadd, 1, 0, 0))) (tr_n 365 (tr_l 365 (.goto 4, 3, 369, 0)) (tr_n 368 (tr_l 368 (.iload_n 1, 1, 0, 0)) (tr_l 369 (.istore_n 1, 1, 0, 0))))) (tr_n 373 (tr_n 370 (tr_l 370 (.goto 29, 3, 399, 0)) (tr_l 373 (.aload_n 0, 1, 0, 0))) (tr_n 374 (tr_l 374 (.invokevirtual 263, 3, 131, 9)) (tr_n 377 (tr_l 377 (.istore_n 1, 1, 0, 0)) (tr_l 378 (.goto 21, 3, 399, 0))))))) (tr_n 396 (tr_n 387 (tr_n 382 (tr_n 381 (tr_l 381 (.aload_n 0, 1, 0, 0)) (tr_l 382 (.iconst 1, 1, 0, 0))) (tr_n 383 (tr_l 383 (.putfield 207, 3, 43, 9)) (tr_n 386 (tr_l 386 (.aload_n 0, 1, 0, 0)) (tr_l 387 (.iload_n 2, 1, 0, 0))))) (tr_n 391 (tr_n 388 (tr_l 388 (.putfield 210, 3, 44, 9)) (tr_l 391 (.aload_n 0, 1, 0, 0))) (tr_n 392 (tr_l 392 (.getfield 201, 3, 41, 9)) (tr_n 395 (tr_l 395 (.istore_n 1, 1, 0, 0)) (tr_l 396 (.goto 3, 3, 399, 0)))))) (tr_n 405 (tr_n 400 (tr_n 399 (tr_l 399 (.aload_n 0, 1, 0, 0)) (tr_l 400 (.iload_n 1, 1, 0, 0))) (tr_n 401 (tr_l 401 (.putfield 201, 3, 41, 9)) (tr_n 404 (tr_l 404 (.aload_n 0, 1, 0, 0)) (tr_l 405 (.dup, 1, 0, 0))))) (tr_n 409 (tr_n 406 (tr_l 406 (.getfield 204, 3, 42, 9)) (tr_l 409 (.iconst 1, 1, 0, 0))) (tr_n 410 (tr_l 410 (.iadd, 1, 0, 0)) (tr_n 411 (tr_l 411 (.putfield 204, 3, 42, 9)) (tr_l 414 (.return_, 1, 0, 0))))))))))
def c_M_choose : Nat → Option eg_E := (tr_n 45 (tr_n 20 (tr_n 9 (tr_n 4 (tr_n 0 (tr_l 0 (.aload_n 0, 1, 0, 0)) (tr_n 1 (tr_l 1 (.getfield 201, 3, 41, 9)) (tr_l 4 (.istore_n 1, 1, 0, 0)))) (tr_n 5 (tr_l 5 (.aload_n 0, 1, 0, 0)) (tr_n 6 (tr_l 6 (.getfield 201, 3, 41, 9)) (tr_l 9 (.aload_n 0, 1, 0, 0))))) (tr_n 14 (tr_n 10 (tr_l 10 (.getfield 231, 3, 34, 9)) (tr_n 13 (tr_l 13 (.iadd, 1, 0, 0)) (tr_l 14 (.istore_n 2, 1, 0, 0)))) (tr_n 16 (tr_n 15 (tr_l 15 (.aload_n 0, 1, 0, 0)) (tr_l 16 (.getfield 201, 3, 41, 9))) (tr_n 19 (tr_l 19 (.aload_n 0, 1, 0, 0)) (tr_l 20 (.getfield 216, 3, 29, 9)))))) (tr_n 33 (tr_n 25 (tr_n 23 (tr_l 23 (.iadd, 1, 0, 0)) (tr_n 24 (tr_l 24 (.istore_n 3, 1, 0, 0)) (tr_l 25 (.aload_n 0, 1, 0, 0)))) (tr_n 29 (tr_n 26 (tr_l 26 (.getfield 68, 3, 40, 9)) (tr_l 29 (.aload_n 0, 1, 0, 0))) (tr_n 30 (tr_l 30 (.getfield 219, 3, 30, 9)) (tr_l 33 (.iaload, 1, 0, 0))))) (tr_n 37 (tr_n 34 (tr_l 34 (.istore 4, 2, 0, 0)) (tr_n 36 (tr_l 36 (.aload_n 0, 1, 0, 0)) (tr_l 37 (.iload_n 2, 1, 0, 0)))) (tr_n 41 (tr_n 38 (tr_l 38 (.invokevirtual 241, 3, 120, 9)) (tr_l 41 (.istore 5, 2, 0, 0))) (tr_n 43 (tr_l 43 (.iload 5, 2, 0, 0)) (tr_l 45 (.ifCond .eq 13, 3, 58, 0))))))) (tr_n 72 (tr_n 60 (tr_n 52 (tr_n 48 (tr_l 48 (.aload_n 0, 1, 0, 0)) (tr_n 49 (tr_l 49 (.getfield 213, 3, 28, 9)) (tr_l 52 (.sipush 256, 3, 0, 0)))) (tr_n 58 (tr_n 55 (tr_l 55 (.if_icmp .eq 5, 3, 60, 0)) (tr_l 58 (.iload_n 3, 1, 0, 0))) (tr_n 59 (tr_l 59 (.ireturn, 1, 1, 0)) (tr_l 60 (.iload 4, 2, 0, 0))))) (tr_n 66 (tr_n 62 (tr_l 62 (.aload_n 0, 1, 0, 0)) (tr_n 63 (tr_l 63 (.getfield 228, 3, 33, 9)) (tr_l 66 (.isub, 1, 0, 0)))) (tr_n 69 (tr_n 67 (tr_l 67 (.istore 6, 2, 0, 0)) (tr_l 69 (.iload 6, 2, 0, 0))) (tr_n 71 (tr_l 71 (.iconst 0, 1, 0, 0)) (tr_l 72 (.aload_n 0, 1, 0, 0)))))) (tr_n 85 (tr_n 77 (tr_n 73 (tr_l 73 (.getfield 234, 3, 35, 9)) (tr_n 76 (tr_l 76 (.iconst 1, 1, 0, 0)) (tr_l 77 (.isub, 1, 0, 0)))) (tr_n 81 (tr_n 78 (tr_l 78 (.invokestatic 80, 3, 87, 0)) (tr_l 81 (.ifCond .eq 15, 3, 96, 0))) (tr_n 84 (tr_l 84 (.iload_n 1, 1, 0, 0)) (tr_l 85 (.aload_n 0, 1, 0, 0))))) (tr_n 89 (tr_n 86 (tr_l 86 (.iload_n 2, 1, 0, 0)) (tr_n 87 (tr_l 87 (.iload 6, 2, 0, 0)) (tr_l 89 (.invokevirtual 244, 3, 122, 9)))) (tr_n 93 (tr_n 92 (tr_l 92 (.iadd, 1, 0, 0)) (tr_l 93 (.goto 4, 3, 97, 0))) (tr_n 96 (tr_l 96 (.iload_n 3, 1, 0, 0)) (tr_l 97 (.ireturn, 1, 1, 0))))))))
def c_M_state : Nat → Option eg_E := (tr_n 79 (tr_n 16 (tr_n 7 (tr_n 1 (tr_n 0 (tr_l 0 (.iload_n 1, 1, 0, 0)) (tr_l 1 (.iconst 0, 1, 0, 0))) (tr_n 2 (tr_l 2 (.bipush 15, 2, 0, 0)) (tr_n 4 (tr_l 4 (.invokestatic 80, 3, 87, 0)) (tr_l 7 (.ifCond .eq 10, 3, 17, 0))))) (tr_n 11 (tr_n 10 (tr_l 10 (.aload_n 0, 1, 0, 0)) (tr_l 11 (.getfield 68, 3, 40, 9))) (tr_n 14 (tr_l 14 (.iload_n 1, 1, 0, 0)) (tr_n 15 (tr_l 15 (.iaload, 1, 0, 0)) (tr_l 16 (.ireturn, 1, 1, 0)))))) (tr_n 72 (tr_n 18 (tr_n 17 (tr_l 17 (.iload_n 1, 1, 0, 0)) (tr_l 18 (.tableswitch 95 16 24 #[50, 55, 60, 65, 70, 75, 80, 85, 90], 50, 0, 0))) (tr_n 68 (tr_l 68 (.aload_n 0, 1, 0, 0)) (tr_n 69 (tr_l 69 (.getfield 201, 3, 41, 9)) (tr_l 72 (.ireturn, 1, 1, 0))))) (tr_n 74 (tr_n 73 (tr_l 73 (.aload_n 0, 1, 0, 0)) (tr_l 74 (.getfield 204, 3, 42, 9))) (tr_n 77 (tr_l 77 (.ireturn, 1, 1, 0)) (tr_n 78 (tr_l 78 (.aload_n 0, 1, 0, 0)) (tr_l 79 (.getfield 207, 3, 43, 9))))))) (tr_n 97 (tr_n 88 (tr_n 83 (tr_n 82 (tr_l 82 (.ireturn, 1, 1, 0)) (tr_l 83 (.aload_n 0, 1, 0, 0))) (tr_n 84 (tr_l 84 (.getfield 210, 3, 44, 9)) (tr_n 87 (tr_l 87 (.ireturn, 1, 1, 0)) (tr_l 88 (.aload_n 0, 1, 0, 0))))) (tr_n 92 (tr_n 89 (tr_l 89 (.getfield 194, 3, 27, 9)) (tr_l 92 (.ireturn, 1, 1, 0))) (tr_n 93 (tr_l 93 (.aload_n 0, 1, 0, 0)) (tr_n 94 (tr_l 94 (.getfield 145, 3, 12, 9)) (tr_l 97 (.ireturn, 1, 1, 0)))))) (tr_n 104 (tr_n 99 (tr_n 98 (tr_l 98 (.aload_n 0, 1, 0, 0)) (tr_l 99 (.getfield 136, 3, 15, 9))) (tr_n 102 (tr_l 102 (.ireturn, 1, 1, 0)) (tr_n 103 (tr_l 103 (.aload_n 0, 1, 0, 0)) (tr_l 104 (.getfield 84, 3, 3, 9))))) (tr_n 109 (tr_n 107 (tr_l 107 (.ireturn, 1, 1, 0)) (tr_n 108 (tr_l 108 (.aload_n 0, 1, 0, 0)) (tr_l 109 (.invokevirtual 269, 3, 133, 9)))) (tr_n 112 (tr_l 112 (.ireturn, 1, 1, 0)) (tr_n 113 (tr_l 113 (.bipush (-2), 2, 0, 0)) (tr_l 115 (.ireturn, 1, 1, 0))))))))
def c_M_longs : Nat → Option eg_E := (tr_n 20 (tr_n 7 (tr_n 2 (tr_n 0 (tr_l 0 (.iconst 0, 1, 0, 0)) (tr_n 1 (tr_l 1 (.istore_n 1, 1, 0, 0)) (tr_l 2 (.aload_n 0, 1, 0, 0)))) (tr_n 3 (tr_l 3 (.invokevirtual 187, 3, 108, 9)) (tr_n 6 (tr_l 6 (.iconst 0, 1, 0, 0)) (tr_l 7 (.istore_n 2, 1, 0, 0))))) (tr_n 10 (tr_n 8 (tr_l 8 (.iload_n 2, 1, 0, 0)) (tr_n 9 (tr_l 9 (.aload_n 0, 1, 0, 0)) (tr_l 10 (.getfield 145, 3, 12, 9)))) (tr_n 16 (tr_n 13 (tr_l 13 (.if_icmp .ge 32, 3, 45, 0)) (tr_l 16 (.aload_n 0, 1, 0, 0))) (tr_n 17 (tr_l 17 (.getfield 19, 3, 5, 9)) (tr_l 20 (.iload_n 2, 1, 0, 0)))))) (tr_n 31 (tr_n 24 (tr_n 21 (tr_l 21 (.iaload, 1, 0, 0)) (tr_n 22 (tr_l 22 (.bipush 40, 2, 0, 0)) (tr_l 24 (.if_icmp .ne 15, 3, 39, 0)))) (tr_n 27 (tr_l 27 (.aload_n 0, 1, 0, 0)) (tr_n 28 (tr_l 28 (.getfield 49, 3, 23, 9)) (tr_l 31 (.iload_n 2, 1, 0, 0))))) (tr_n 36 (tr_n 32 (tr_l 32 (.baload, 1, 4, 0)) (tr_n 33 (tr_l 33 (.ifCond .eq 6, 3, 39, 0)) (tr_l 36 (.iinc 1 1, 3, 0, 0)))) (tr_n 42 (tr_n 39 (tr_l 39 (.iinc 2 1, 3, 0, 0)) (tr_l 42 (.goto (-34), 3, 8, 0))) (tr_n 45 (tr_l 45 (.iload_n 1, 1, 0, 0)) (tr_l 46 (.ireturn, 1, 1, 0)))))))
def c_L_law : Nat → Option eg_E := (tr_n 224 (tr_n 150 (tr_n 101 (tr_n 21 (tr_n 12 (tr_n 4 (tr_n 0 (tr_l 0 (.new 7, 3, 2, 0)) (tr_n 3 (tr_l 3 (.dup, 1, 0, 0)) (tr_l 4 (.invokespecial 9, 3, 1, 1)))) (tr_n 8 (tr_n 7 (tr_l 7 (.astore_n 1, 1, 0, 0)) (tr_l 8 (.new 10, 3, 26, 0))) (tr_n 11 (tr_l 11 (.dup, 1, 0, 0)) (tr_l 12 (.invokespecial 12, 3, 85, 9))))) (tr_n 17 (tr_n 15 (tr_l 15 (.astore_n 2, 1, 0, 0)) (tr_n 16 (tr_l 16 (.iconst 0, 1, 0, 0)) (tr_l 17 (.istore_n 3, 1, 0, 0)))) (tr_n 19 (tr_n 18 (tr_l 18 (.iload_n 3, 1, 0, 0)) (tr_l 19 (.aload_n 0, 1, 0, 0))) (tr_n 20 (tr_l 20 (.arraylength, 1, 0, 0)) (tr_l 21 (.iconst 3, 1, 0, 0)))))) (tr_n 31 (tr_n 26 (tr_n 22 (tr_l 22 (.isub, 1, 0, 0)) (tr_n 23 (tr_l 23 (.if_icmp .gt 355, 3, 378, 0)) (tr_l 26 (.aload_n 0, 1, 0, 0)))) (tr_n 28 (tr_n 27 (tr_l 27 (.iload_n 3, 1, 0, 0)) (tr_l 28 (.iaload, 1, 0, 0))) (tr_n 29 (tr_l 29 (.bipush 15, 2, 0, 0)) (tr_l 31 (.iand, 1, 0, 0))))) (tr_n 97 (tr_n 32 (tr_l 32 (.tableswitch 340 0 11 #[64, 87, 100, 113, 126, 159, 182, 215, 248, 261, 294, 317], 64, 0, 0)) (tr_n 96 (tr_l 96 (.aload_n 1, 1, 0, 0)) (tr_l 97 (.aload_n 0, 1, 0, 0)))) (tr_n 99 (tr_n 98 (tr_l 98 (.iload_n 3, 1, 0, 0)) (tr_l 99 (.iconst 1, 1, 0, 0))) (tr_n 100 (tr_l 100 (.iadd, 1, 0, 0)) (tr_l 101 (.iaload, 1, 0, 0))))))) (tr_n 123 (tr_n 110 (tr_n 106 (tr_n 102 (tr_l 102 (.invokevirtual 13, 3, 9, 1)) (tr_n 105 (tr_l 105 (.aload_n 2, 1, 0, 0)) (tr_l 106 (.aload_n 0, 1, 0, 0)))) (tr_n 108 (tr_n 107 (tr_l 107 (.iload_n 3, 1, 0, 0)) (tr_l 108 (.iconst 1, 1, 0, 0))) (tr_n 109 (tr_l 109 (.iadd, 1, 0, 0)) (tr_l 110 (.iaload, 1, 0, 0))))) (tr_n 117 (tr_n 111 (tr_l 111 (.invokevirtual 17, 3, 86, 9)) (tr_n 114 (tr_l 114 (.if_icmp .eq 258, 3, 372, 0)) (tr_l 117 (.iconst 0, 1, 0, 0)))) (tr_n 119 (tr_n 118 (tr_l 118 (.ireturn, 1, 2, 0)) (tr_l 119 (.aload_n 1, 1, 0, 0))) (tr_n 120 (tr_l 120 (.invokevirtual 18, 3, 11, 1)) (tr_l 123 (.aload_n 2, 1, 0, 0)))))) (tr_n 136 (tr_n 130 (tr_n 124 (tr_l 124 (.invokevirtual 22, 3, 88, 9)) (tr_n 127 (tr_l 127 (.if_icmp .eq 245, 3, 372, 0)) (tr_l 130 (.iconst 0, 1, 0, 0)))) (tr_n 132 (tr_n 131 (tr_l 131 (.ireturn, 1, 2, 0)) (tr_l 132 (.aload_n 1, 1, 0, 0))) (tr_n 133 (tr_l 133 (.invokevirtual 23, 3, 44, 1)) (tr_l 136 (.aload_n 2, 1, 0, 0))))) (tr_n 144 (tr_n 140 (tr_n 137 (tr_l 137 (.invokevirtual 26, 3, 106, 9)) (tr_l 140 (.if_icmp .eq 232, 3, 372, 0))) (tr_n 143 (tr_l 143 (.iconst 0, 1, 0, 0)) (tr_l 144 (.ireturn, 1, 2, 0)))) (tr_n 146 (tr_n 145 (tr_l 145 (.aload_n 1, 1, 0, 0)) (tr_l 146 (.invokevirtual 27, 3, 46, 1))) (tr_n 149 (tr_l 149 (.aload_n 2, 1, 0, 0)) (tr_l 150 (.invokevirtual 30, 3, 107, 9)))))))) (tr_n 189 (tr_n 168 (tr_n 161 (tr_n 157 (tr_n 153 (tr_l 153 (.if_icmp .eq 219, 3, 372, 0)) (tr_n 156 (tr_l 156 (.iconst 0, 1, 0, 0)) (tr_l 157 (.ireturn, 1, 2, 0)))) (tr_n 159 (tr_n 158 (tr_l 158 (.aload_n 1, 1, 0, 0)) (tr_l 159 (.aload_n 0, 1, 0, 0))) (tr_n 160 (tr_l 160 (.iload_n 3, 1, 0, 0)) (tr_l 161 (.iconst 1, 1, 0, 0))))) (tr_n 164 (tr_n 162 (tr_l 162 (.iadd, 1, 0, 0)) (tr_n 163 (tr_l 163 (.iaload, 1, 0, 0)) (tr_l 164 (.aload_n 0, 1, 0, 0)))) (tr_n 166 (tr_n 165 (tr_l 165 (.iload_n 3, 1, 0, 0)) (tr_l 166 (.iconst 2, 1, 0, 0))) (tr_n 167 (tr_l 167 (.iadd, 1, 0, 0)) (tr_l 168 (.iaload, 1, 0, 0)))))) (tr_n 177 (tr_n 173 (tr_n 169 (tr_l 169 (.invokevirtual 31, 3, 57, 1)) (tr_n 172 (tr_l 172 (.aload_n 2, 1, 0, 0)) (tr_l 173 (.aload_n 0, 1, 0, 0)))) (tr_n 175 (tr_n 174 (tr_l 174 (.iload_n 3, 1, 0, 0)) (tr_l 175 (.iconst 1, 1, 0, 0))) (tr_n 176 (tr_l 176 (.iadd, 1, 0, 0)) (tr_l 177 (.iaload, 1, 0, 0))))) (tr_n 181 (tr_n 179 (tr_n 178 (tr_l 178 (.aload_n 0, 1, 0, 0)) (tr_l 179 (.iload_n 3, 1, 0, 0))) (tr_n 180 (tr_l 180 (.iconst 2, 1, 0, 0)) (tr_l 181 (.iadd, 1, 0, 0)))) (tr_n 183 (tr_n 182 (tr_l 182 (.iaload, 1, 0, 0)) (tr_l 183 (.invokevirtual 35, 3, 116, 9))) (tr_n 186 (tr_l 186 (.if_icmp .eq 186, 3, 372, 0)) (tr_l 189 (.iconst 0, 1, 0, 0))))))) (tr_n 205 (tr_n 196 (tr_n 192 (tr_n 190 (tr_l 190 (.ireturn, 1, 2, 0)) (tr_n 191 (tr_l 191 (.aload_n 1, 1, 0, 0)) (tr_l 192 (.aload_n 0, 1, 0, 0)))) (tr_n 194 (tr_n 193 (tr_l 193 (.iload_n 3, 1, 0, 0)) (tr_l 194 (.iconst 1, 1, 0, 0))) (tr_n 195 (tr_l 195 (.iadd, 1, 0, 0)) (tr_l 196 (.iaload, 1, 0, 0))))) (tr_n 201 (tr_n 197 (tr_l 197 (.invokevirtual 36, 3, 58, 1)) (tr_n 200 (tr_l 200 (.aload_n 2, 1, 0, 0)) (tr_l 201 (.aload_n 0, 1, 0, 0)))) (tr_n 203 (tr_n 202 (tr_l 202 (.iload_n 3, 1, 0, 0)) (tr_l 203 (.iconst 1, 1, 0, 0))) (tr_n 204 (tr_l 204 (.iadd, 1, 0, 0)) (tr_l 205 (.iaload, 1, 0, 0)))))) (tr_n 216 (tr_n 212 (tr_n 206 (tr_l 206 (.invokevirtual 39, 3, 117, 9)) (tr_n 209 (tr_l 209 (.if_icmp .eq 163, 3, 372, 0)) (tr_l 212 (.iconst 0, 1, 0, 0)))) (tr_n 214 (tr_n 213 (tr_l 213 (.ireturn, 1, 2, 0)) (tr_l 214 (.aload_n 1, 1, 0, 0))) (tr_n 215 (tr_l 215 (.aload_n 0, 1, 0, 0)) (tr_l 216 (.iload_n 3, 1, 0, 0))))) (tr_n 220 (tr_n 218 (tr_n 217 (tr_l 217 (.iconst 1, 1, 0, 0)) (tr_l 218 (.iadd, 1, 0, 0))) (tr_n 219 (tr_l 219 (.iaload, 1, 0, 0)) (tr_l 220 (.aload_n 0, 1, 0, 0)))) (tr_n 222 (tr_n 221 (tr_l 221 (.iload_n 3, 1, 0, 0)) (tr_l 222 (.iconst 2, 1, 0, 0))) (tr_n 223 (tr_l 223 (.iadd, 1, 0, 0)) (tr_l 224 (.iaload, 1, 0, 0))))))))) (tr_n 299 (tr_n 258 (tr_n 242 (tr_n 233 (tr_n 229 (tr_n 225 (tr_l 225 (.invokevirtual 40, 3, 60, 1)) (tr_n 228 (tr_l 228 (.aload_n 2, 1, 0, 0)) (tr_l 229 (.aload_n 0, 1, 0, 0)))) (tr_n 231 (tr_n 230 (tr_l 230 (.iload_n 3, 1, 0, 0)) (tr_l 231 (.iconst 1, 1, 0, 0))) (tr_n 232 (tr_l 232 (.iadd, 1, 0, 0)) (tr_l 233 (.iaload, 1, 0, 0))))) (tr_n 236 (tr_n 234 (tr_l 234 (.aload_n 0, 1, 0, 0)) (tr_n 235 (tr_l 235 (.iload_n 3, 1, 0, 0)) (tr_l 236 (.iconst 2, 1, 0, 0)))) (tr_n 238 (tr_n 237 (tr_l 237 (.iadd, 1, 0, 0)) (tr_l 238 (.iaload, 1, 0, 0))) (tr_n 239 (tr_l 239 (.invokevirtual 43, 3, 118, 9)) (tr_l 242 (.if_icmp .eq 130, 3, 372, 0)))))) (tr_n 251 (tr_n 247 (tr_n 245 (tr_l 245 (.iconst 0, 1, 0, 0)) (tr_n 246 (tr_l 246 (.ireturn, 1, 2, 0)) (tr_l 247 (.aload_n 1, 1, 0, 0)))) (tr_n 249 (tr_n 248 (tr_l 248 (.aload_n 0, 1, 0, 0)) (tr_l 249 (.iload_n 3, 1, 0, 0))) (tr_n 250 (tr_l 250 (.iconst 1, 1, 0, 0)) (tr_l 251 (.iadd, 1, 0, 0))))) (tr_n 254 (tr_n 252 (tr_l 252 (.iaload, 1, 0, 0)) (tr_n 253 (tr_l 253 (.aload_n 0, 1, 0, 0)) (tr_l 254 (.iload_n 3, 1, 0, 0)))) (tr_n 256 (tr_n 255 (tr_l 255 (.iconst 2, 1, 0, 0)) (tr_l 256 (.iadd, 1, 0, 0))) (tr_n 257 (tr_l 257 (.iaload, 1, 0, 0)) (tr_l 258 (.invokevirtual 44, 3, 61, 1))))))) (tr_n 278 (tr_n 267 (tr_n 263 (tr_n 261 (tr_l 261 (.aload_n 2, 1, 0, 0)) (tr_n 262 (tr_l 262 (.aload_n 0, 1, 0, 0)) (tr_l 263 (.iload_n 3, 1, 0, 0)))) (tr_n 265 (tr_n 264 (tr_l 264 (.iconst 1, 1, 0, 0)) (tr_l 265 (.iadd, 1, 0, 0))) (tr_n 266 (tr_l 266 (.iaload, 1, 0, 0)) (tr_l 267 (.aload_n 0, 1, 0, 0))))) (tr_n 270 (tr_n 268 (tr_l 268 (.iload_n 3, 1, 0, 0)) (tr_n 269 (tr_l 269 (.iconst 2, 1, 0, 0)) (tr_l 270 (.iadd, 1, 0, 0)))) (tr_n 272 (tr_n 271 (tr_l 271 (.iaload, 1, 0, 0)) (tr_l 272 (.invokevirtual 47, 3, 119, 9))) (tr_n 275 (tr_l 275 (.if_icmp .eq 97, 3, 372, 0)) (tr_l 278 (.iconst 0, 1, 0, 0)))))) (tr_n 291 (tr_n 281 (tr_n 279 (tr_l 279 (.ireturn, 1, 2, 0)) (tr_n 280 (tr_l 280 (.aload_n 1, 1, 0, 0)) (tr_l 281 (.invokevirtual 48, 3, 71, 1)))) (tr_n 285 (tr_n 284 (tr_l 284 (.aload_n 2, 1, 0, 0)) (tr_l 285 (.invokevirtual 51, 3, 123, 9))) (tr_n 288 (tr_l 288 (.if_icmp .eq 84, 3, 372, 0)) (tr_l 291 (.iconst 0, 1, 0, 0))))) (tr_n 295 (tr_n 293 (tr_n 292 (tr_l 292 (.ireturn, 1, 2, 0)) (tr_l 293 (.aload_n 1, 1, 0, 0))) (tr_n 294 (tr_l 294 (.aload_n 0, 1, 0, 0)) (tr_l 295 (.iload_n 3, 1, 0, 0)))) (tr_n 297 (tr_n 296 (tr_l 296 (.iconst 1, 1, 0, 0)) (tr_l 297 (.iadd, 1, 0, 0))) (tr_n 298 (tr_l 298 (.iaload, 1, 0, 0)) (tr_l 299 (.aload_n 0, 1, 0, 0)))))))) (tr_n 336 (tr_n 315 (tr_n 308 (tr_n 302 (tr_n 300 (tr_l 300 (.iload_n 3, 1, 0, 0)) (tr_n 301 (tr_l 301 (.iconst 2, 1, 0, 0)) (tr_l 302 (.iadd, 1, 0, 0)))) (tr_n 304 (tr_n 303 (tr_l 303 (.iaload, 1, 0, 0)) (tr_l 304 (.invokevirtual 52, 3, 74, 1))) (tr_n 307 (tr_l 307 (.aload_n 2, 1, 0, 0)) (tr_l 308 (.aload_n 0, 1, 0, 0))))) (tr_n 311 (tr_n 309 (tr_l 309 (.iload_n 3, 1, 0, 0)) (tr_n 310 (tr_l 310 (.iconst 1, 1, 0, 0)) (tr_l 311 (.iadd, 1, 0, 0)))) (tr_n 313 (tr_n 312 (tr_l 312 (.iaload, 1, 0, 0)) (tr_l 313 (.aload_n 0, 1, 0, 0))) (tr_n 314 (tr_l 314 (.iload_n 3, 1, 0, 0)) (tr_l 315 (.iconst 2, 1, 0, 0)))))) (tr_n 326 (tr_n 318 (tr_n 316 (tr_l 316 (.iadd, 1, 0, 0)) (tr_n 317 (tr_l 317 (.iaload, 1, 0, 0)) (tr_l 318 (.invokevirtual 55, 3, 124, 9)))) (tr_n 324 (tr_n 321 (tr_l 321 (.if_icmp .eq 51, 3, 372, 0)) (tr_l 324 (.iconst 0, 1, 0, 0))) (tr_n 325 (tr_l 325 (.ireturn, 1, 2, 0)) (tr_l 326 (.aload_n 1, 1, 0, 0))))) (tr_n 330 (tr_n 328 (tr_n 327 (tr_l 327 (.aload_n 0, 1, 0, 0)) (tr_l 328 (.iload_n 3, 1, 0, 0))) (tr_n 329 (tr_l 329 (.iconst 1, 1, 0, 0)) (tr_l 330 (.iadd, 1, 0, 0)))) (tr_n 332 (tr_n 331 (tr_l 331 (.iaload, 1, 0, 0)) (tr_l 332 (.invokevirtual 56, 3, 78, 1))) (tr_n 335 (tr_l 335 (.aload_n 2, 1, 0, 0)) (tr_l 336 (.aload_n 0, 1, 0, 0))))))) (tr_n 354 (tr_n 347 (tr_n 339 (tr_n 337 (tr_l 337 (.iload_n 3, 1, 0, 0)) (tr_n 338 (tr_l 338 (.iconst 1, 1, 0, 0)) (tr_l 339 (.iadd, 1, 0, 0)))) (tr_n 341 (tr_n 340 (tr_l 340 (.iaload, 1, 0, 0)) (tr_l 341 (.invokevirtual 59, 3, 129, 9))) (tr_n 344 (tr_l 344 (.if_icmp .eq 28, 3, 372, 0)) (tr_l 347 (.iconst 0, 1, 0, 0))))) (tr_n 350 (tr_n 348 (tr_l 348 (.ireturn, 1, 2, 0)) (tr_n 349 (tr_l 349 (.aload_n 1, 1, 0, 0)) (tr_l 350 (.aload_n 0, 1, 0, 0)))) (tr_n 352 (tr_n 351 (tr_l 351 (.iload_n 3, 1, 0, 0)) (tr_l 352 (.iconst 1, 1, 0, 0))) (tr_n 353 (tr_l 353 (.iadd, 1, 0, 0)) (tr_l 354 (.iaload, 1, 0, 0)))))) (tr_n 363 (tr_n 359 (tr_n 355 (tr_l 355 (.invokevirtual 60, 3, 84, 1)) (tr_n 358 (tr_l 358 (.aload_n 2, 1, 0, 0)) (tr_l 359 (.aload_n 0, 1, 0, 0)))) (tr_n 361 (tr_n 360 (tr_l 360 (.iload_n 3, 1, 0, 0)) (tr_l 361 (.iconst 1, 1, 0, 0))) (tr_n 362 (tr_l 362 (.iadd, 1, 0, 0)) (tr_l 363 (.iaload, 1, 0, 0))))) (tr_n 371 (tr_n 367 (tr_n 364 (tr_l 364 (.invokevirtual 63, 3, 132, 9)) (tr_l 367 (.if_icmp .eq 5, 3, 372, 0))) (tr_n 370 (tr_l 370 (.iconst 0, 1, 0, 0)) (tr_l 371 (.ireturn, 1, 2, 0)))) (tr_n 375 (tr_n 372 (tr_l 372 (.iinc 3 3, 3, 0, 0)) (tr_l 375 (.goto (-357), 3, 18, 0))) (tr_n 378 (tr_l 378 (.iconst 1, 1, 0, 0)) (tr_l 379 (.ireturn, 1, 2, 0))))))))))
def c_String_length : Nat → Option eg_E := (tr_n 4 (tr_n 0 (tr_l 0 (.aload_n 0, 1, 0, 0)) (tr_n 1 (tr_l 1 (.getfield 9, 3, 0, 12)) (tr_l 4 (.arraylength, 1, 0, 0)))) (tr_n 6 (tr_n 5 (tr_l 5 (.aload_n 0, 1, 0, 0)) (tr_l 6 (.invokevirtual 335, 3, 136, 12))) (tr_n 9 (tr_l 9 (.ishr, 1, 0, 0)) (tr_l 10 (.ireturn, 1, 1, 0)))))
def c_String_coder : Nat → Option eg_E := (tr_n 6 (tr_n 0 (tr_l 0 (.getstatic 38, 3, 18, 0)) (tr_n 3 (tr_l 3 (.ifCond .eq 10, 3, 13, 0)) (tr_l 6 (.aload_n 0, 1, 0, 0)))) (tr_n 10 (tr_n 7 (tr_l 7 (.getfield 15, 3, 1, 12)) (tr_l 10 (.goto 4, 3, 14, 0))) (tr_n 13 (tr_l 13 (.iconst 1, 1, 0, 0)) (tr_l 14 (.ireturn, 1, 4, 0)))))
def c_String_charAt : Nat → Option eg_E := (tr_n 11 (tr_n 4 (tr_n 0 (tr_l 0 (.aload_n 0, 1, 0, 0)) (tr_n 1 (tr_l 1 (.invokevirtual 492, 3, 138, 12)) (tr_l 4 (.ifCond .eq 12, 3, 16, 0)))) (tr_n 7 (tr_l 7 (.aload_n 0, 1, 0, 0)) (tr_n 8 (tr_l 8 (.getfield 9, 3, 0, 12)) (tr_l 11 (.iload_n 1, 1, 0, 0))))) (tr_n 16 (tr_n 12 (tr_l 12 (.invokestatic 495, 3, 143, 0)) (tr_n 15 (tr_l 15 (.ireturn, 1, 3, 0)) (tr_l 16 (.aload_n 0, 1, 0, 0)))) (tr_n 17 (tr_l 17 (.getfield 9, 3, 0, 12)) (tr_n 20 (tr_l 20 (.iload_n 1, 1, 0, 0)) (tr_l 24 (.ireturn, 1, 3, 0))))))
def c_String_isLatin1 : Nat → Option eg_E := (tr_n 7 (tr_n 3 (tr_n 0 (tr_l 0 (.getstatic 38, 3, 18, 0)) (tr_l 3 (.ifCond .eq 14, 3, 17, 0))) (tr_n 6 (tr_l 6 (.aload_n 0, 1, 0, 0)) (tr_l 7 (.getfield 15, 3, 1, 12)))) (tr_n 13 (tr_n 10 (tr_l 10 (.ifCond .ne 7, 3, 17, 0)) (tr_l 13 (.iconst 1, 1, 0, 0))) (tr_n 14 (tr_l 14 (.goto 4, 3, 18, 0)) (tr_n 17 (tr_l 17 (.iconst 0, 1, 0, 0)) (tr_l 18 (.ireturn, 1, 2, 0))))))
def c_String_indexOf : Nat → Option eg_E := (tr_n 1 (tr_n 0 (tr_l 0 (.aload_n 0, 1, 0, 0)) (tr_l 1 (.iload_n 1, 1, 0, 0))) (tr_n 2 (tr_l 2 (.iconst 0, 1, 0, 0)) (tr_n 3 (tr_l 3 (.invokevirtual 633, 3, 140, 12)) (tr_l 6 (.ireturn, 1, 1, 0)))))
def c_String_indexOf2 : Nat → Option eg_E := (tr_n 14 (tr_n 7 (tr_n 1 (tr_n 0 (tr_l 0 (.aload_n 0, 1, 0, 0)) (tr_l 1 (.invokevirtual 492, 3, 138, 12))) (tr_n 4 (tr_l 4 (.ifCond .eq 19, 3, 23, 0)) (tr_l 7 (.aload_n 0, 1, 0, 0)))) (tr_n 11 (tr_n 8 (tr_l 8 (.getfield 9, 3, 0, 12)) (tr_l 11 (.iload_n 1, 1, 0, 0))) (tr_n 12 (tr_l 12 (.iload_n 2, 1, 0, 0)) (tr_n 13 (tr_l 13 (.aload_n 0, 1, 0, 0)) (tr_l 14 (.invokevirtual 505, 3, 135, 12)))))) (tr_n 24 (tr_n 20 (tr_n 17 (tr_l 17 (.invokestatic 637, 3, 144, 0)) (tr_l 20 (.goto 16, 3, 36, 0))) (tr_n 23 (tr_l 23 (.aload_n 0, 1, 0, 0)) (tr_l 24 (.getfield 9, 3, 0, 12)))) (tr_n 28 (tr_n 27 (tr_l 27 (.iload_n 1, 1, 0, 0)) (tr_l 28 (.iload_n 2, 1, 0, 0))) (tr_n 29 (tr_l 29 (.aload_n 0, 1, 0, 0)) (tr_n 30 (tr_l 30 (.invokevirtual 505, 3, 135, 12)) (tr_l 36 (.ireturn, 1, 1, 0)))))))
def c_String_getBytes : Nat → Option eg_E := (tr_n 17 (tr_n 9 (tr_n 4 (tr_n 0 (tr_l 0 (.aload_n 0, 1, 0, 0)) (tr_n 1 (tr_l 1 (.invokevirtual 335, 3, 136, 12)) (tr_l 4 (.iload_n 3, 1, 0, 0)))) (tr_n 5 (tr_l 5 (.if_icmp .ne 23, 3, 28, 0)) (tr_n 8 (tr_l 8 (.aload_n 0, 1, 0, 0)) (tr_l 9 (.getfield 9, 3, 0, 12))))) (tr_n 14 (tr_n 12 (tr_l 12 (.iconst 0, 1, 0, 0)) (tr_n 13 (tr_l 13 (.aload_n 1, 1, 0, 0)) (tr_l 14 (.iload_n 2, 1, 0, 0)))) (tr_n 15 (tr_l 15 (.iload_n 3, 1, 0, 0)) (tr_n 16 (tr_l 16 (.ishl, 1, 0, 0)) (tr_l 17 (.aload_n 0, 1, 0, 0)))))) (tr_n 29 (tr_n 22 (tr_n 18 (tr_l 18 (.getfield 9, 3, 0, 12)) (tr_n 21 (tr_l 21 (.arraylength, 1, 0, 0)) (tr_l 22 (.invokestatic 212, 3, 0, 99)))) (tr_n 25 (tr_l 25 (.goto 18, 3, 43, 0)) (tr_n 28 (tr_l 28 (.aload_n 0, 1, 0, 0)) (tr_l 29 (.getfield 9, 3, 0, 12))))) (tr_n 34 (tr_n 32 (tr_l 32 (.iconst 0, 1, 0, 0)) (tr_n 33 (tr_l 33 (.aload_n 1, 1, 0, 0)) (tr_l 34 (.iload_n 2, 1, 0, 0)))) (tr_n 36 (tr_n 35 (tr_l 35 (.aload_n 0, 1, 0, 0)) (tr_l 36 (.getfield 9, 3, 0, 12))) (tr_n 39 (tr_l 39 (.arraylength, 1, 0, 0)) (tr_l 43 (.return_, 1, 0, 0)))))))
def c_String_checkIndex : Nat → Option eg_E := (tr_n 2 (tr_n 0 (tr_l 0 (.iload_n 0, 1, 0, 0)) (tr_n 1 (tr_l 1 (.iload_n 1, 1, 0, 0)) (tr_l 2 (.getstatic 1053, 3, 21, 0)))) (tr_n 5 (tr_l 5 (.invokestatic 1059, 3, 148, 0)) (tr_n 8 (tr_l 8 (.pop, 1, 0, 0)) (tr_l 9 (.return_, 1, 0, 0)))))
def c_StringLatin1_charAt : Nat → Option eg_E := (tr_n 6 (tr_n 1 (tr_n 0 (tr_l 0 (.iload_n 1, 1, 0, 0)) (tr_l 1 (.aload_n 0, 1, 0, 0))) (tr_n 2 (tr_l 2 (.arraylength, 1, 0, 0)) (tr_n 3 (tr_l 3 (.invokestatic 9, 3, 142, 0)) (tr_l 6 (.aload_n 0, 1, 0, 0))))) (tr_n 9 (tr_n 7 (tr_l 7 (.iload_n 1, 1, 0, 0)) (tr_n 8 (tr_l 8 (.baload, 1, 2, 0)) (tr_l 9 (.sipush 255, 3, 0, 0)))) (tr_n 12 (tr_l 12 (.iand, 1, 0, 0)) (tr_n 13 (tr_l 13 (.i2c, 1, 0, 0)) (tr_l 14 (.ireturn, 1, 3, 0))))))
def c_StringLatin1_indexOf : Nat → Option eg_E := (tr_n 17 (tr_n 9 (tr_n 4 (tr_n 0 (tr_l 0 (.iload_n 1, 1, 0, 0)) (tr_n 1 (tr_l 1 (.invokestatic 88, 3, 145, 0)) (tr_l 4 (.ifCond .ne 5, 3, 9, 0)))) (tr_n 7 (tr_l 7 (.iconst (-1), 1, 0, 0)) (tr_n 8 (tr_l 8 (.ireturn, 1, 1, 0)) (tr_l 9 (.iload_n 2, 1, 0, 0))))) (tr_n 14 (tr_n 10 (tr_l 10 (.iconst 0, 1, 0, 0)) (tr_n 11 (tr_l 11 (.invokestatic 92, 3, 0, 98)) (tr_l 14 (.istore_n 2, 1, 0, 0)))) (tr_n 15 (tr_l 15 (.iload_n 3, 1, 0, 0)) (tr_n 16 (tr_l 16 (.aload_n 0, 1, 0, 0)) (tr_l 17 (.arraylength, 1, 0, 0)))))) (tr_n 27 (tr_n 22 (tr_n 18 (tr_l 18 (.invokestatic 38, 3, 0, 97)) (tr_n 21 (tr_l 21 (.istore_n 3, 1, 0, 0)) (tr_l 22 (.iload_n 2, 1, 0, 0)))) (tr_n 23 (tr_l 23 (.iload_n 3, 1, 0, 0)) (tr_n 24 (tr_l 24 (.if_icmp .lt 5, 3, 29, 0)) (tr_l 27 (.iconst (-1), 1, 0, 0))))) (tr_n 30 (tr_n 28 (tr_l 28 (.ireturn, 1, 1, 0)) (tr_n 29 (tr_l 29 (.aload_n 0, 1, 0, 0)) (tr_l 30 (.iload_n 1, 1, 0, 0)))) (tr_n 32 (tr_n 31 (tr_l 31 (.iload_n 2, 1, 0, 0)) (tr_l 32 (.iload_n 3, 1, 0, 0))) (tr_n 33 (tr_l 33 (.invokestatic 95, 3, 147, 0)) (tr_l 36 (.ireturn, 1, 1, 0)))))))
def c_StringLatin1_canEncode : Nat → Option eg_E := (tr_n 5 (tr_n 1 (tr_n 0 (tr_l 0 (.iload_n 0, 1, 0, 0)) (tr_l 1 (.ifCond .lt 14, 3, 15, 0))) (tr_n 4 (tr_l 4 (.iload_n 0, 1, 0, 0)) (tr_l 5 (.sipush 255, 3, 0, 0)))) (tr_n 11 (tr_n 8 (tr_l 8 (.if_icmp .gt 7, 3, 15, 0)) (tr_l 11 (.iconst 1, 1, 0, 0))) (tr_n 12 (tr_l 12 (.goto 4, 3, 16, 0)) (tr_n 15 (tr_l 15 (.iconst 0, 1, 0, 0)) (tr_l 16 (.ireturn, 1, 2, 0))))))
def c_StringLatin1_canEncode2 : Nat → Option eg_E := (tr_n 4 (tr_n 0 (tr_l 0 (.iload_n 0, 1, 0, 0)) (tr_n 1 (tr_l 1 (.sipush 255, 3, 0, 0)) (tr_l 4 (.if_icmp .gt 7, 3, 11, 0)))) (tr_n 8 (tr_n 7 (tr_l 7 (.iconst 1, 1, 0, 0)) (tr_l 8 (.goto 4, 3, 12, 0))) (tr_n 11 (tr_l 11 (.iconst 0, 1, 0, 0)) (tr_l 12 (.ireturn, 1, 2, 0)))))
def c_StringLatin1_indexOfChar : Nat → Option eg_E := (tr_n 13 (tr_n 4 (tr_n 1 (tr_n 0 (tr_l 0 (.iload_n 1, 1, 0, 0)) (tr_l 1 (.i2b, 1, 0, 0))) (tr_n 2 (tr_l 2 (.istore 4, 2, 0, 0)) (tr_l 4 (.iload_n 2, 1, 0, 0)))) (tr_n 7 (tr_n 5 (tr_l 5 (.istore 5, 2, 0, 0)) (tr_l 7 (.iload 5, 2, 0, 0))) (tr_n 9 (tr_l 9 (.iload_n 3, 1, 0, 0)) (tr_n 10 (tr_l 10 (.if_icmp .ge 21, 3, 31, 0)) (tr_l 13 (.aload_n 0, 1, 0, 0)))))) (tr_n 22 (tr_n 16 (tr_n 14 (tr_l 14 (.iload 5, 2, 0, 0)) (tr_l 16 (.baload, 1, 2, 0))) (tr_n 17 (tr_l 17 (.iload 4, 2, 0, 0)) (tr_n 19 (tr_l 19 (.if_icmp .ne 6, 3, 25, 0)) (tr_l 22 (.iload 5, 2, 0, 0))))) (tr_n 25 (tr_n 24 (tr_l 24 (.ireturn, 1, 1, 0)) (tr_l 25 (.iinc 5 1, 3, 0, 0))) (tr_n 28 (tr_l 28 (.goto (-21), 3, 7, 0)) (tr_n 31 (tr_l 31 (.iconst (-1), 1, 0, 0)) (tr_l 32 (.ireturn, 1, 1, 0)))))))
def c_Preconditions_checkIndex : Nat → Option eg_E := (tr_n 6 (tr_n 1 (tr_n 0 (tr_l 0 (.iload_n 0, 1, 0, 0)) (tr_l 1 (.ifCond .lt 8, 3, 9, 0))) (tr_n 4 (tr_l 4 (.iload_n 0, 1, 0, 0)) (tr_n 5 (tr_l 5 (.iload_n 1, 1, 0, 0)) (tr_l 6 (.if_icmp .lt 10, 3, 16, 0))))) (tr_n 10 (tr_n 9 (tr_l 9 (.aload_n 2, 1, 0, 0)) (tr_l 10 (.iload_n 0, 1, 0, 0))) (tr_n 11 (tr_l 11 (.iload_n 1, 1, 0, 0)) (tr_n 16 (tr_l 16 (.iload_n 0, 1, 0, 0)) (tr_l 17 (.ireturn, 1, 1, 0))))))
def c_SB_init : Nat → Option eg_E := (tr_n 1 (tr_n 0 (tr_l 0 (.aload_n 0, 1, 0, 0)) (tr_l 1 (.bipush 16, 2, 0, 0))) (tr_n 3 (tr_l 3 (.invokespecial 1, 3, 156, 10)) (tr_l 6 (.return_, 1, 0, 0))))
def c_SB_append : Nat → Option eg_E := (tr_n 2 (tr_n 0 (tr_l 0 (.aload_n 0, 1, 0, 0)) (tr_n 1 (tr_l 1 (.iload_n 1, 1, 0, 0)) (tr_l 2 (.invokespecial 50, 3, 157, 10)))) (tr_n 5 (tr_l 5 (.pop, 1, 0, 0)) (tr_n 6 (tr_l 6 (.aload_n 0, 1, 0, 0)) (tr_l 7 (.areturn, 1, 0, 0)))))
def c_SB_append2 : Nat → Option eg_E := (tr_n 2 (tr_n 0 (tr_l 0 (.aload_n 0, 1, 0, 0)) (tr_n 1 (tr_l 1 (.iload_n 1, 1, 0, 0)) (tr_l 2 (.invokespecial 53, 3, 158, 10)))) (tr_n 5 (tr_l 5 (.pop, 1, 0, 0)) (tr_n 6 (tr_l 6 (.aload_n 0, 1, 0, 0)) (tr_l 7 (.areturn, 1, 0, 0)))))
def c_SB_append3 : Nat → Option eg_E := (tr_n 2 (tr_n 0 (tr_l 0 (.aload_n 0, 1, 0, 0)) (tr_n 1 (tr_l 1 (.aload_n 1, 1, 0, 0)) (tr_l 2 (.invokespecial 29, 3, 159, 10)))) (tr_n 5 (tr_l 5 (.pop, 1, 0, 0)) (tr_n 6 (tr_l 6 (.aload_n 0, 1, 0, 0)) (tr_l 7 (.areturn, 1, 0, 0)))))
def c_SB_charAt : Nat → Option eg_E := (tr_n 1 (tr_n 0 (tr_l 0 (.aload_n 0, 1, 0, 0)) (tr_l 1 (.iload_n 1, 1, 0, 0))) (tr_n 2 (tr_l 2 (.invokespecial 329, 3, 160, 10)) (tr_l 5 (.ireturn, 1, 3, 0))))
def c_SB_length : Nat → Option eg_E := (tr_n 0 (tr_l 0 (.aload_n 0, 1, 0, 0)) (tr_n 1 (tr_l 1 (.invokespecial 343, 3, 164, 10)) (tr_l 4 (.ireturn, 1, 1, 0))))
def c_SB_setLength : Nat → Option eg_E := (tr_n 1 (tr_n 0 (tr_l 0 (.aload_n 0, 1, 0, 0)) (tr_l 1 (.iload_n 1, 1, 0, 0))) (tr_n 2 (tr_l 2 (.invokespecial 333, 3, 167, 10)) (tr_l 5 (.return_, 1, 0, 0))))
def c_ASB_init : Nat → Option eg_E := (tr_n 17 (tr_n 7 (tr_n 1 (tr_n 0 (tr_l 0 (.aload_n 0, 1, 0, 0)) (tr_l 1 (.invokespecial 3, 3, 0, 99))) (tr_n 4 (tr_l 4 (.getstatic 18, 3, 18, 0)) (tr_l 7 (.ifCond .eq 18, 3, 25, 0)))) (tr_n 11 (tr_n 10 (tr_l 10 (.aload_n 0, 1, 0, 0)) (tr_l 11 (.iload_n 1, 1, 0, 0))) (tr_n 12 (tr_l 12 (.newarray .byte, 2, 25, 0)) (tr_n 14 (tr_l 14 (.putfield 15, 3, 0, 10)) (tr_l 17 (.aload_n 0, 1, 0, 0)))))) (tr_n 26 (tr_n 19 (tr_n 18 (tr_l 18 (.iconst 0, 1, 0, 0)) (tr_l 19 (.putfield 22, 3, 1, 10))) (tr_n 22 (tr_l 22 (.goto 16, 3, 38, 0)) (tr_n 25 (tr_l 25 (.aload_n 0, 1, 0, 0)) (tr_l 26 (.iload_n 1, 1, 0, 0))))) (tr_n 33 (tr_n 30 (tr_l 30 (.putfield 15, 3, 0, 10)) (tr_l 33 (.aload_n 0, 1, 0, 0))) (tr_n 34 (tr_l 34 (.iconst 1, 1, 0, 0)) (tr_n 35 (tr_l 35 (.putfield 22, 3, 1, 10)) (tr_l 38 (.return_, 1, 0, 0)))))))
def c_ASB_append : Nat → Option eg_E := (tr_n 35 (tr_n 17 (tr_n 6 (tr_n 1 (tr_n 0 (tr_l 0 (.aload_n 0, 1, 0, 0)) (tr_l 1 (.aload_n 0, 1, 0, 0))) (tr_n 2 (tr_l 2 (.getfield 79, 3, 3, 10)) (tr_n 5 (tr_l 5 (.iconst 1, 1, 0, 0)) (tr_l 6 (.iadd, 1, 0, 0))))) (tr_n 10 (tr_n 7 (tr_l 7 (.invokevirtual 100, 3, 161, 10)) (tr_l 10 (.aload_n 0, 1, 0, 0))) (tr_n 11 (tr_l 11 (.invokevirtual 83, 3, 163, 10)) (tr_n 14 (tr_l 14 (.ifCond .eq 31, 3, 45, 0)) (tr_l 17 (.iload_n 1, 1, 0, 0)))))) (tr_n 28 (tr_n 21 (tr_n 18 (tr_l 18 (.invokestatic 191, 3, 146, 0)) (tr_l 21 (.ifCond .eq 24, 3, 45, 0))) (tr_n 24 (tr_l 24 (.aload_n 0, 1, 0, 0)) (tr_n 25 (tr_l 25 (.getfield 15, 3, 0, 10)) (tr_l 28 (.aload_n 0, 1, 0, 0))))) (tr_n 30 (tr_n 29 (tr_l 29 (.dup, 1, 0, 0)) (tr_l 30 (.getfield 79, 3, 3, 10))) (tr_n 33 (tr_l 33 (.dup_x1, 1, 0, 0)) (tr_n 34 (tr_l 34 (.iconst 1, 1, 0, 0)) (tr_l 35 (.iadd, 1, 0, 0))))))) (tr_n 56 (tr_n 42 (tr_n 39 (tr_n 36 (tr_l 36 (.putfield 79, 3, 3, 10)) (tr_l 39 (.iload_n 1, 1, 0, 0))) (tr_n 40 (tr_l 40 (.i2b, 1, 0, 0)) (tr_n 41 (tr_l 41 (.bastore, 1, 2, 0)) (tr_l 42 (.goto 33, 3, 75, 0))))) (tr_n 46 (tr_n 45 (tr_l 45 (.aload_n 0, 1, 0, 0)) (tr_l 46 (.invokevirtual 83, 3, 163, 10))) (tr_n 49 (tr_l 49 (.ifCond .eq 7, 3, 56, 0)) (tr_n 52 (tr_l 52 (.aload_n 0, 1, 0, 0)) (tr_l 56 (.aload_n 0, 1, 0, 0)))))) (tr_n 65 (tr_n 60 (tr_n 57 (tr_l 57 (.getfield 15, 3, 0, 10)) (tr_l 60 (.aload_n 0, 1, 0, 0))) (tr_n 61 (tr_l 61 (.dup, 1, 0, 0)) (tr_n 62 (tr_l 62 (.getfield 79, 3, 3, 10)) (tr_l 65 (.dup_x1, 1, 0, 0))))) (tr_n 68 (tr_n 66 (tr_l 66 (.iconst 1, 1, 0, 0)) (tr_n 67 (tr_l 67 (.iadd, 1, 0, 0)) (tr_l 68 (.putfield 79, 3, 3, 10)))) (tr_n 71 (tr_l 71 (.iload_n 1, 1, 0, 0)) (tr_n 75 (tr_l 75 (.aload_n 0, 1, 0, 0)) (tr_l 76 (.areturn, 1, 0, 0))))))))
def c_ASB_append2 : Nat → Option eg_E := (tr_n 25 (tr_n 11 (tr_n 5 (tr_n 1 (tr_n 0 (tr_l 0 (.aload_n 0, 1, 0, 0)) (tr_l 1 (.getfield 79, 3, 3, 10))) (tr_n 4 (tr_l 4 (.istore_n 2, 1, 0, 0)) (tr_l 5 (.iload_n 2, 1, 0, 0)))) (tr_n 7 (tr_n 6 (tr_l 6 (.iload_n 1, 1, 0, 0)) (tr_l 7 (.invokestatic 245, 3, 170, 0))) (tr_n 10 (tr_l 10 (.iadd, 1, 0, 0)) (tr_l 11 (.istore_n 3, 1, 0, 0))))) (tr_n 17 (tr_n 13 (tr_n 12 (tr_l 12 (.aload_n 0, 1, 0, 0)) (tr_l 13 (.iload_n 3, 1, 0, 0))) (tr_n 14 (tr_l 14 (.invokevirtual 100, 3, 161, 10)) (tr_l 17 (.aload_n 0, 1, 0, 0)))) (tr_n 21 (tr_n 18 (tr_l 18 (.invokevirtual 83, 3, 163, 10)) (tr_l 21 (.ifCond .eq 16, 3, 37, 0))) (tr_n 24 (tr_l 24 (.iload_n 1, 1, 0, 0)) (tr_l 25 (.iload_n 3, 1, 0, 0)))))) (tr_n 39 (tr_n 33 (tr_n 27 (tr_n 26 (tr_l 26 (.aload_n 0, 1, 0, 0)) (tr_l 27 (.getfield 15, 3, 0, 10))) (tr_n 30 (tr_l 30 (.invokestatic 248, 3, 171, 0)) (tr_l 33 (.pop, 1, 0, 0)))) (tr_n 37 (tr_n 34 (tr_l 34 (.goto 14, 3, 48, 0)) (tr_l 37 (.iload_n 1, 1, 0, 0))) (tr_n 38 (tr_l 38 (.iload_n 2, 1, 0, 0)) (tr_l 39 (.iload_n 3, 1, 0, 0))))) (tr_n 48 (tr_n 41 (tr_n 40 (tr_l 40 (.aload_n 0, 1, 0, 0)) (tr_l 41 (.getfield 15, 3, 0, 10))) (tr_n 47 (tr_l 47 (.pop, 1, 0, 0)) (tr_l 48 (.aload_n 0, 1, 0, 0)))) (tr_n 50 (tr_n 49 (tr_l 49 (.iload_n 3, 1, 0, 0)) (tr_l 50 (.putfield 79, 3, 3, 10))) (tr_n 53 (tr_l 53 (.aload_n 0, 1, 0, 0)) (tr_l 54 (.areturn, 1, 0, 0)))))))
def c_ASB_append3 : Nat → Option eg_E := (tr_n 21 (tr_n 10 (tr_n 4 (tr_n 0 (tr_l 0 (.aload_n 1, 1, 0, 0)) (tr_n 1 (tr_l 1 (.ifnonnull 8, 3, 9, 0)) (tr_l 4 (.aload_n 0, 1, 0, 0)))) (tr_n 8 (tr_l 8 (.areturn, 1, 0, 0)) (tr_n 9 (tr_l 9 (.aload_n 1, 1, 0, 0)) (tr_l 10 (.invokevirtual 32, 3, 135, 12))))) (tr_n 15 (tr_n 13 (tr_l 13 (.istore_n 2, 1, 0, 0)) (tr_n 14 (tr_l 14 (.aload_n 0, 1, 0, 0)) (tr_l 15 (.aload_n 0, 1, 0, 0)))) (tr_n 19 (tr_n 16 (tr_l 16 (.getfield 79, 3, 3, 10)) (tr_l 19 (.iload_n 2, 1, 0, 0))) (tr_n 20 (tr_l 20 (.iadd, 1, 0, 0)) (tr_l 21 (.invokevirtual 100, 3, 161, 10)))))) (tr_n 33 (tr_n 26 (tr_n 24 (tr_l 24 (.aload_n 0, 1, 0, 0)) (tr_n 25 (tr_l 25 (.aload_n 0, 1, 0, 0)) (tr_l 26 (.getfield 79, 3, 3, 10)))) (tr_n 29 (tr_l 29 (.aload_n 1, 1, 0, 0)) (tr_n 30 (tr_l 30 (.invokevirtual 208, 3, 165, 10)) (tr_l 33 (.aload_n 0, 1, 0, 0))))) (tr_n 38 (tr_n 34 (tr_l 34 (.dup, 1, 0, 0)) (tr_n 35 (tr_l 35 (.getfield 79, 3, 3, 10)) (tr_l 38 (.iload_n 2, 1, 0, 0)))) (tr_n 40 (tr_n 39 (tr_l 39 (.iadd, 1, 0, 0)) (tr_l 40 (.putfield 79, 3, 3, 10))) (tr_n 43 (tr_l 43 (.aload_n 0, 1, 0, 0)) (tr_l 44 (.areturn, 1, 0, 0)))))))
def c_ASB_charAt : Nat → Option eg_E := (tr_n 21 (tr_n 10 (tr_n 4 (tr_n 0 (tr_l 0 (.aload_n 0, 1, 0, 0)) (tr_n 1 (tr_l 1 (.getfield 22, 3, 1, 10)) (tr_l 4 (.istore_n 2, 1, 0, 0)))) (tr_n 6 (tr_n 5 (tr_l 5 (.aload_n 0, 1, 0, 0)) (tr_l 6 (.getfield 15, 3, 0, 10))) (tr_n 9 (tr_l 9 (.astore_n 3, 1, 0, 0)) (tr_l 10 (.aload_n 0, 1, 0, 0))))) (tr_n 15 (tr_n 11 (tr_l 11 (.getfield 79, 3, 3, 10)) (tr_n 14 (tr_l 14 (.aload_n 3, 1, 0, 0)) (tr_l 15 (.arraylength, 1, 0, 0)))) (tr_n 17 (tr_n 16 (tr_l 16 (.iload_n 2, 1, 0, 0)) (tr_l 17 (.ishr, 1, 0, 0))) (tr_n 18 (tr_l 18 (.invokestatic 138, 3, 0, 97)) (tr_l 21 (.istore 4, 2, 0, 0)))))) (tr_n 34 (tr_n 26 (tr_n 23 (tr_l 23 (.iload_n 1, 1, 0, 0)) (tr_n 24 (tr_l 24 (.iload 4, 2, 0, 0)) (tr_l 26 (.invokestatic 144, 3, 142, 0)))) (tr_n 30 (tr_n 29 (tr_l 29 (.iload_n 2, 1, 0, 0)) (tr_l 30 (.ifCond .ne 12, 3, 42, 0))) (tr_n 33 (tr_l 33 (.aload_n 3, 1, 0, 0)) (tr_l 34 (.iload_n 1, 1, 0, 0))))) (tr_n 40 (tr_n 36 (tr_n 35 (tr_l 35 (.baload, 1, 2, 0)) (tr_l 36 (.sipush 255, 3, 0, 0))) (tr_n 39 (tr_l 39 (.iand, 1, 0, 0)) (tr_l 40 (.i2c, 1, 0, 0)))) (tr_n 42 (tr_n 41 (tr_l 41 (.ireturn, 1, 3, 0)) (tr_l 42 (.aload_n 3, 1, 0, 0))) (tr_n 43 (tr_l 43 (.iload_n 1, 1, 0, 0)) (tr_l 47 (.ireturn, 1, 3, 0)))))))
def c_ASB_ensureCapacityInternal : Nat → Option eg_E := (tr_n 14 (tr_n 6 (tr_n 1 (tr_n 0 (tr_l 0 (.aload_n 0, 1, 0, 0)) (tr_l 1 (.getfield 15, 3, 0, 10))) (tr_n 4 (tr_l 4 (.arraylength, 1, 0, 0)) (tr_n 5 (tr_l 5 (.aload_n 0, 1, 0, 0)) (tr_l 6 (.getfield 22, 3, 1, 10))))) (tr_n 11 (tr_n 9 (tr_l 9 (.ishr, 1, 0, 0)) (tr_n 10 (tr_l 10 (.istore_n 2, 1, 0, 0)) (tr_l 11 (.iload_n 1, 1, 0, 0)))) (tr_n 12 (tr_l 12 (.iload_n 2, 1, 0, 0)) (tr_n 13 (tr_l 13 (.isub, 1, 0, 0)) (tr_l 14 (.ifCond .le 24, 3, 38, 0)))))) (tr_n 24 (tr_n 19 (tr_n 17 (tr_l 17 (.aload_n 0, 1, 0, 0)) (tr_n 18 (tr_l 18 (.aload_n 0, 1, 0, 0)) (tr_l 19 (.getfield 15, 3, 0, 10)))) (tr_n 22 (tr_l 22 (.aload_n 0, 1, 0, 0)) (tr_n 23 (tr_l 23 (.iload_n 1, 1, 0, 0)) (tr_l 24 (.invokevirtual 104, 3, 162, 10))))) (tr_n 31 (tr_n 27 (tr_l 27 (.aload_n 0, 1, 0, 0)) (tr_n 28 (tr_l 28 (.getfield 22, 3, 1, 10)) (tr_l 31 (.ishl, 1, 0, 0)))) (tr_n 32 (tr_l 32 (.invokestatic 108, 3, 169, 0)) (tr_n 35 (tr_l 35 (.putfield 15, 3, 0, 10)) (tr_l 38 (.return_, 1, 0, 0)))))))
def c_ASB_newCapacity : Nat → Option eg_E := (tr_n 21 (tr_n 11 (tr_n 5 (tr_n 1 (tr_n 0 (tr_l 0 (.aload_n 0, 1, 0, 0)) (tr_l 1 (.getfield 15, 3, 0, 10))) (tr_n 4 (tr_l 4 (.arraylength, 1, 0, 0)) (tr_l 5 (.istore_n 2, 1, 0, 0)))) (tr_n 7 (tr_n 6 (tr_l 6 (.iload_n 1, 1, 0, 0)) (tr_l 7 (.aload_n 0, 1, 0, 0))) (tr_n 8 (tr_l 8 (.getfield 22, 3, 1, 10)) (tr_l 11 (.ishl, 1, 0, 0))))) (tr_n 15 (tr_n 13 (tr_n 12 (tr_l 12 (.istore_n 3, 1, 0, 0)) (tr_l 13 (.iload_n 3, 1, 0, 0))) (tr_n 14 (tr_l 14 (.iload_n 2, 1, 0, 0)) (tr_l 15 (.isub, 1, 0, 0)))) (tr_n 18 (tr_n 16 (tr_l 16 (.istore 4, 2, 0, 0)) (tr_l 18 (.iload_n 2, 1, 0, 0))) (tr_n 19 (tr_l 19 (.iload 4, 2, 0, 0)) (tr_l 21 (.iload_n 2, 1, 0, 0)))))) (tr_n 34 (tr_n 27 (tr_n 23 (tr_n 22 (tr_l 22 (.iconst 2, 1, 0, 0)) (tr_l 23 (.aload_n 0, 1, 0, 0))) (tr_n 24 (tr_l 24 (.getfield 22, 3, 1, 10)) (tr_l 27 (.ishl, 1, 0, 0)))) (tr_n 29 (tr_n 28 (tr_l 28 (.iadd, 1, 0, 0)) (tr_l 29 (.invokestatic 114, 3, 168, 0))) (tr_n 32 (tr_l 32 (.istore 5, 2, 0, 0)) (tr_l 34 (.iload 5, 2, 0, 0))))) (tr_n 51 (tr_n 38 (tr_n 36 (tr_l 36 (.ldc 39, 2, 2147483647, 0)) (tr_l 38 (.if_icmp .ne 13, 3, 51, 0))) (tr_n 44 (tr_l 44 (.dup, 1, 0, 0)) (tr_l 51 (.iload 5, 2, 0, 0)))) (tr_n 54 (tr_n 53 (tr_l 53 (.aload_n 0, 1, 0, 0)) (tr_l 54 (.getfield 22, 3, 1, 10))) (tr_n 57 (tr_l 57 (.ishr, 1, 0, 0)) (tr_l 58 (.ireturn, 1, 1, 0)))))))
def c_ASB_isLatin1 : Nat → Option eg_E := (tr_n 7 (tr_n 3 (tr_n 0 (tr_l 0 (.getstatic 18, 3, 18, 0)) (tr_l 3 (.ifCond .eq 14, 3, 17, 0))) (tr_n 6 (tr_l 6 (.aload_n 0, 1, 0, 0)) (tr_l 7 (.getfield 22, 3, 1, 10)))) (tr_n 13 (tr_n 10 (tr_l 10 (.ifCond .ne 7, 3, 17, 0)) (tr_l 13 (.iconst 1, 1, 0, 0))) (tr_n 14 (tr_l 14 (.goto 4, 3, 18, 0)) (tr_n 17 (tr_l 17 (.iconst 0, 1, 0, 0)) (tr_l 18 (.ireturn, 1, 2, 0))))))
def c_ASB_length : Nat → Option eg_E := (tr_n 0 (tr_l 0 (.aload_n 0, 1, 0, 0)) (tr_n 1 (tr_l 1 (.getfield 79, 3, 3, 10)) (tr_l 4 (.ireturn, 1, 1, 0))))
def c_ASB_putStringAt : Nat → Option eg_E := (tr_n 6 (tr_n 1 (tr_n 0 (tr_l 0 (.aload_n 0, 1, 0, 0)) (tr_l 1 (.aload_n 2, 1, 0, 0))) (tr_n 2 (tr_l 2 (.invokevirtual 397, 3, 166, 10)) (tr_n 5 (tr_l 5 (.aload_n 2, 1, 0, 0)) (tr_l 6 (.aload_n 0, 1, 0, 0))))) (tr_n 11 (tr_n 7 (tr_l 7 (.getfield 15, 3, 0, 10)) (tr_n 10 (tr_l 10 (.iload_n 1, 1, 0, 0)) (tr_l 11 (.aload_n 0, 1, 0, 0)))) (tr_n 12 (tr_l 12 (.getfield 22, 3, 1, 10)) (tr_n 15 (tr_l 15 (.invokevirtual 399, 3, 141, 12)) (tr_l 18 (.return_, 1, 0, 0))))))
def c_ASB_inflateIfNeededFor : Nat → Option eg_E := (tr_n 7 (tr_n 3 (tr_n 0 (tr_l 0 (.getstatic 18, 3, 18, 0)) (tr_l 3 (.ifCond .eq 18, 3, 21, 0))) (tr_n 6 (tr_l 6 (.aload_n 0, 1, 0, 0)) (tr_l 7 (.getfield 22, 3, 1, 10)))) (tr_n 11 (tr_n 10 (tr_l 10 (.aload_n 1, 1, 0, 0)) (tr_l 11 (.invokevirtual 40, 3, 136, 12))) (tr_n 14 (tr_l 14 (.if_icmp .eq 7, 3, 21, 0)) (tr_n 17 (tr_l 17 (.aload_n 0, 1, 0, 0)) (tr_l 21 (.return_, 1, 0, 0))))))
def c_ASB_setLength : Nat → Option eg_E := (tr_n 38 (tr_n 19 (tr_n 8 (tr_n 1 (tr_n 0 (tr_l 0 (.iload_n 1, 1, 0, 0)) (tr_l 1 (.ifCond .ge 12, 3, 13, 0))) (tr_n 7 (tr_l 7 (.dup, 1, 0, 0)) (tr_l 8 (.iload_n 1, 1, 0, 0)))) (tr_n 14 (tr_n 13 (tr_l 13 (.aload_n 0, 1, 0, 0)) (tr_l 14 (.iload_n 1, 1, 0, 0))) (tr_n 15 (tr_l 15 (.invokevirtual 100, 3, 161, 10)) (tr_n 18 (tr_l 18 (.aload_n 0, 1, 0, 0)) (tr_l 19 (.getfield 79, 3, 3, 10)))))) (tr_n 27 (tr_n 23 (tr_n 22 (tr_l 22 (.iload_n 1, 1, 0, 0)) (tr_l 23 (.if_icmp .ge 40, 3, 63, 0))) (tr_n 26 (tr_l 26 (.aload_n 0, 1, 0, 0)) (tr_l 27 (.invokevirtual 83, 3, 163, 10)))) (tr_n 33 (tr_n 30 (tr_l 30 (.ifCond .eq 18, 3, 48, 0)) (tr_l 33 (.aload_n 0, 1, 0, 0))) (tr_n 34 (tr_l 34 (.getfield 15, 3, 0, 10)) (tr_n 37 (tr_l 37 (.aload_n 0, 1, 0, 0)) (tr_l 38 (.getfield 79, 3, 3, 10))))))) (tr_n 63 (tr_n 49 (tr_n 45 (tr_n 41 (tr_l 41 (.iload_n 1, 1, 0, 0)) (tr_l 45 (.goto 31, 3, 76, 0))) (tr_n 48 (tr_l 48 (.aload_n 0, 1, 0, 0)) (tr_l 49 (.getfield 15, 3, 0, 10)))) (tr_n 53 (tr_n 52 (tr_l 52 (.aload_n 0, 1, 0, 0)) (tr_l 53 (.getfield 79, 3, 3, 10))) (tr_n 56 (tr_l 56 (.iload_n 1, 1, 0, 0)) (tr_n 60 (tr_l 60 (.goto 16, 3, 76, 0)) (tr_l 63 (.aload_n 0, 1, 0, 0)))))) (tr_n 72 (tr_n 67 (tr_n 64 (tr_l 64 (.getfield 79, 3, 3, 10)) (tr_l 67 (.iload_n 1, 1, 0, 0))) (tr_n 68 (tr_l 68 (.if_icmp .le 8, 3, 76, 0)) (tr_n 71 (tr_l 71 (.aload_n 0, 1, 0, 0)) (tr_l 72 (.iconst 1, 1, 0, 0))))) (tr_n 76 (tr_n 73 (tr_l 73 (.putfield 73, 3, 2, 10)) (tr_l 76 (.aload_n 0, 1, 0, 0))) (tr_n 77 (tr_l 77 (.iload_n 1, 1, 0, 0)) (tr_n 78 (tr_l 78 (.putfield 79, 3, 3, 10)) (tr_l 81 (.return_, 1, 0, 0))))))))
def c_ArraysSupport_newLength : Nat → Option eg_E := (tr_n 9 (tr_n 3 (tr_n 1 (tr_n 0 (tr_l 0 (.iload_n 0, 1, 0, 0)) (tr_l 1 (.iload_n 1, 1, 0, 0))) (tr_n 2 (tr_l 2 (.iload_n 2, 1, 0, 0)) (tr_l 3 (.invokestatic 194, 3, 0, 98)))) (tr_n 7 (tr_n 6 (tr_l 6 (.iadd, 1, 0, 0)) (tr_l 7 (.istore_n 3, 1, 0, 0))) (tr_n 8 (tr_l 8 (.iconst 0, 1, 0, 0)) (tr_l 9 (.iload_n 3, 1, 0, 0))))) (tr_n 16 (tr_n 13 (tr_n 10 (tr_l 10 (.if_icmp .ge 11, 3, 21, 0)) (tr_l 13 (.iload_n 3, 1, 0, 0))) (tr_n 14 (tr_l 14 (.ldc 200, 2, 2147483639, 0)) (tr_l 16 (.if_icmp .gt 5, 3, 21, 0)))) (tr_n 20 (tr_n 19 (tr_l 19 (.iload_n 3, 1, 0, 0)) (tr_l 20 (.ireturn, 1, 1, 0))) (tr_n 21 (tr_l 21 (.iload_n 0, 1, 0, 0)) (tr_n 22 (tr_l 22 (.iload_n 1, 1, 0, 0)) (tr_l 26 (.ireturn, 1, 1, 0)))))))
def c_Arrays_copyOf : Nat → Option eg_E := (tr_n 18 (tr_n 6 (tr_n 1 (tr_n 0 (tr_l 0 (.iload_n 1, 1, 0, 0)) (tr_l 1 (.aload_n 0, 1, 0, 0))) (tr_n 2 (tr_l 2 (.arraylength, 1, 0, 0)) (tr_n 3 (tr_l 3 (.if_icmp .ne 11, 3, 14, 0)) (tr_l 6 (.aload_n 0, 1, 0, 0))))) (tr_n 14 (tr_n 13 (tr_l 13 (.areturn, 1, 0, 0)) (tr_l 14 (.iload_n 1, 1, 0, 0))) (tr_n 15 (tr_l 15 (.newarray .byte, 2, 25, 0)) (tr_n 17 (tr_l 17 (.astore_n 2, 1, 0, 0)) (tr_l 18 (.aload_n 0, 1, 0, 0)))))) (tr_n 23 (tr_n 20 (tr_n 19 (tr_l 19 (.iconst 0, 1, 0, 0)) (tr_l 20 (.aload_n 2, 1, 0, 0))) (tr_n 21 (tr_l 21 (.iconst 0, 1, 0, 0)) (tr_n 22 (tr_l 22 (.aload_n 0, 1, 0, 0)) (tr_l 23 (.arraylength, 1, 0, 0))))) (tr_n 25 (tr_n 24 (tr_l 24 (.iload_n 1, 1, 0, 0)) (tr_l 25 (.invokestatic 304, 3, 0, 97))) (tr_n 28 (tr_l 28 (.invokestatic 150, 3, 0, 99)) (tr_n 31 (tr_l 31 (.aload_n 2, 1, 0, 0)) (tr_l 32 (.areturn, 1, 0, 0)))))))
def c_Integer_stringSize : Nat → Option eg_E := (tr_n 19 (tr_n 9 (tr_n 3 (tr_n 1 (tr_n 0 (tr_l 0 (.iconst 1, 1, 0, 0)) (tr_l 1 (.istore_n 1, 1, 0, 0))) (tr_n 2 (tr_l 2 (.iload_n 0, 1, 0, 0)) (tr_l 3 (.ifCond .lt 8, 3, 11, 0)))) (tr_n 7 (tr_n 6 (tr_l 6 (.iconst 0, 1, 0, 0)) (tr_l 7 (.istore_n 1, 1, 0, 0))) (tr_n 8 (tr_l 8 (.iload_n 0, 1, 0, 0)) (tr_l 9 (.ineg, 1, 0, 0))))) (tr_n 14 (tr_n 11 (tr_n 10 (tr_l 10 (.istore_n 0, 1, 0, 0)) (tr_l 11 (.bipush (-10), 2, 0, 0))) (tr_n 13 (tr_l 13 (.istore_n 2, 1, 0, 0)) (tr_l 14 (.iconst 1, 1, 0, 0)))) (tr_n 16 (tr_n 15 (tr_l 15 (.istore_n 3, 1, 0, 0)) (tr_l 16 (.iload_n 3, 1, 0, 0))) (tr_n 17 (tr_l 17 (.bipush 10, 2, 0, 0)) (tr_l 19 (.if_icmp .ge 23, 3, 42, 0)))))) (tr_n 31 (tr_n 27 (tr_n 23 (tr_n 22 (tr_l 22 (.iload_n 0, 1, 0, 0)) (tr_l 23 (.iload_n 2, 1, 0, 0))) (tr_n 24 (tr_l 24 (.if_icmp .le 7, 3, 31, 0)) (tr_l 27 (.iload_n 3, 1, 0, 0)))) (tr_n 29 (tr_n 28 (tr_l 28 (.iload_n 1, 1, 0, 0)) (tr_l 29 (.iadd, 1, 0, 0))) (tr_n 30 (tr_l 30 (.ireturn, 1, 1, 0)) (tr_l 31 (.bipush 10, 2, 0, 0))))) (tr_n 36 (tr_n 34 (tr_n 33 (tr_l 33 (.iload_n 2, 1, 0, 0)) (tr_l 34 (.imul, 1, 0, 0))) (tr_n 35 (tr_l 35 (.istore_n 2, 1, 0, 0)) (tr_l 36 (.iinc 3 1, 3, 0, 0)))) (tr_n 42 (tr_n 39 (tr_l 39 (.goto (-23), 3, 16, 0)) (tr_l 42 (.bipush 10, 2, 0, 0))) (tr_n 44 (tr_l 44 (.iload_n 1, 1, 0, 0)) (tr_n 45 (tr_l 45 (.iadd, 1, 0, 0)) (tr_l 46 (.ireturn, 1, 1, 0))))))))
def c_Integer_getChars : Nat → Option eg_E := (tr_n 55 (tr_n 28 (tr_n 12 (tr_n 4 (tr_n 1 (tr_n 0 (tr_l 0 (.iload_n 1, 1, 0, 0)) (tr_l 1 (.istore 5, 2, 0, 0))) (tr_n 3 (tr_l 3 (.iload_n 0, 1, 0, 0)) (tr_l 4 (.ifCond .ge 7, 3, 11, 0)))) (tr_n 8 (tr_n 7 (tr_l 7 (.iconst 1, 1, 0, 0)) (tr_l 8 (.goto 4, 3, 12, 0))) (tr_n 11 (tr_l 11 (.iconst 0, 1, 0, 0)) (tr_l 12 (.istore 6, 2, 0, 0))))) (tr_n 20 (tr_n 16 (tr_n 14 (tr_l 14 (.iload 6, 2, 0, 0)) (tr_l 16 (.ifCond .ne 6, 3, 22, 0))) (tr_n 19 (tr_l 19 (.iload_n 0, 1, 0, 0)) (tr_l 20 (.ineg, 1, 0, 0)))) (tr_n 22 (tr_n 21 (tr_l 21 (.istore_n 0, 1, 0, 0)) (tr_l 22 (.iload_n 0, 1, 0, 0))) (tr_n 23 (tr_l 23 (.bipush (-100), 2, 0, 0)) (tr_n 25 (tr_l 25 (.if_icmp .gt 47, 3, 72, 0)) (tr_l 28 (.iload_n 0, 1, 0, 0))))))) (tr_n 39 (tr_n 33 (tr_n 31 (tr_n 29 (tr_l 29 (.bipush 100, 2, 0, 0)) (tr_l 31 (.idiv, 1, 0, 0))) (tr_n 32 (tr_l 32 (.istore_n 3, 1, 0, 0)) (tr_l 33 (.iload_n 3, 1, 0, 0)))) (tr_n 36 (tr_n 34 (tr_l 34 (.bipush 100, 2, 0, 0)) (tr_l 36 (.imul, 1, 0, 0))) (tr_n 37 (tr_l 37 (.iload_n 0, 1, 0, 0)) (tr_n 38 (tr_l 38 (.isub, 1, 0, 0)) (tr_l 39 (.istore 4, 2, 0, 0)))))) (tr_n 44 (tr_n 42 (tr_n 41 (tr_l 41 (.iload_n 3, 1, 0, 0)) (tr_l 42 (.istore_n 0, 1, 0, 0))) (tr_n 43 (tr_l 43 (.aload_n 2, 1, 0, 0)) (tr_l 44 (.iinc 5 (-1), 3, 0, 0)))) (tr_n 49 (tr_n 47 (tr_l 47 (.iload 5, 2, 0, 0)) (tr_l 49 (.getstatic 83, 3, 19, 0))) (tr_n 52 (tr_l 52 (.iload 4, 2, 0, 0)) (tr_n 54 (tr_l 54 (.baload, 1, 2, 0)) (tr_l 55 (.bastore, 1, 2, 0)))))))) (tr_n 86 (tr_n 72 (tr_n 62 (tr_n 57 (tr_n 56 (tr_l 56 (.aload_n 2, 1, 0, 0)) (tr_l 57 (.iinc 5 (-1), 3, 0, 0))) (tr_n 60 (tr_l 60 (.iload 5, 2, 0, 0)) (tr_l 62 (.getstatic 87, 3, 20, 0)))) (tr_n 67 (tr_n 65 (tr_l 65 (.iload 4, 2, 0, 0)) (tr_l 67 (.baload, 1, 2, 0))) (tr_n 68 (tr_l 68 (.bastore, 1, 2, 0)) (tr_n 69 (tr_l 69 (.goto (-47), 3, 22, 0)) (tr_l 72 (.aload_n 2, 1, 0, 0)))))) (tr_n 81 (tr_n 76 (tr_n 73 (tr_l 73 (.iinc 5 (-1), 3, 0, 0)) (tr_l 76 (.iload 5, 2, 0, 0))) (tr_n 78 (tr_l 78 (.getstatic 83, 3, 19, 0)) (tr_l 81 (.iload_n 0, 1, 0, 0)))) (tr_n 83 (tr_n 82 (tr_l 82 (.ineg, 1, 0, 0)) (tr_l 83 (.baload, 1, 2, 0))) (tr_n 84 (tr_l 84 (.bastore, 1, 2, 0)) (tr_n 85 (tr_l 85 (.iload_n 0, 1, 0, 0)) (tr_l 86 (.bipush (-9), 2, 0, 0))))))) (tr_n 103 (tr_n 95 (tr_n 91 (tr_n 88 (tr_l 88 (.if_icmp .ge 16, 3, 104, 0)) (tr_l 91 (.aload_n 2, 1, 0, 0))) (tr_n 92 (tr_l 92 (.iinc 5 (-1), 3, 0, 0)) (tr_l 95 (.iload 5, 2, 0, 0)))) (tr_n 100 (tr_n 97 (tr_l 97 (.getstatic 87, 3, 20, 0)) (tr_l 100 (.iload_n 0, 1, 0, 0))) (tr_n 101 (tr_l 101 (.ineg, 1, 0, 0)) (tr_n 102 (tr_l 102 (.baload, 1, 2, 0)) (tr_l 103 (.bastore, 1, 2, 0)))))) (tr_n 110 (tr_n 106 (tr_n 104 (tr_l 104 (.iload 6, 2, 0, 0)) (tr_l 106 (.ifCond .eq 12, 3, 118, 0))) (tr_n 109 (tr_l 109 (.aload_n 2, 1, 0, 0)) (tr_l 110 (.iinc 5 (-1), 3, 0, 0)))) (tr_n 115 (tr_n 113 (tr_l 113 (.iload 5, 2, 0, 0)) (tr_l 115 (.bipush 45, 2, 0, 0))) (tr_n 117 (tr_l 117 (.bastore, 1, 2, 0)) (tr_n 118 (tr_l 118 (.iload 5, 2, 0, 0)) (tr_l 120 (.ireturn, 1, 1, 0)))))))))
def c_Enum_ordinal : Nat → Option eg_E := (tr_n 0 (tr_l 0 (.aload_n 0, 1, 0, 0)) (tr_n 1 (tr_l 1 (.getfield 7, 3, 0, 11)) (tr_l 4 (.ireturn, 1, 1, 0))))
def pg_ins (mi : Nat) : Nat → Option eg_E := (bif Nat.ble mi 86 then (bif Nat.ble mi 43 then (bif Nat.ble mi 21 then (bif Nat.ble mi 10 then (bif Nat.ble mi 5 then (bif Nat.ble mi 2 then (bif Nat.ble mi 1 then (fun pc => bif Nat.beq mi 1 then c_U_init pc else none) else (fun pc => bif Nat.beq mi 2 then c_Draft_init pc else none)) else (bif Nat.ble mi 3 then (fun pc => bif Nat.beq mi 3 then c_Text_init pc else none) else (bif Nat.ble mi 4 then (fun pc => bif Nat.beq mi 4 then c_Labels_init pc else none) else (fun pc => bif Nat.beq mi 5 then c_Item_init pc else none)))) else (bif Nat.ble mi 7 then (bif Nat.ble mi 6 then (fun pc => bif Nat.beq mi 6 then c_Code_init pc else none) else (fun pc => bif Nat.beq mi 7 then c_Reading_init pc else none)) else (bif Nat.ble mi 8 then (fun pc => bif Nat.beq mi 8 then c_Machine_init pc else none) else (bif Nat.ble mi 9 then (fun pc => bif Nat.beq mi 9 then c_U_put pc else none) else (fun pc => bif Nat.beq mi 10 then c_Draft_append pc else none))))) else (bif Nat.ble mi 15 then (bif Nat.ble mi 12 then (bif Nat.ble mi 11 then (fun pc => bif Nat.beq mi 11 then c_U_line pc else none) else (fun pc => bif Nat.beq mi 12 then c_Draft_partIntoWords pc else none)) else (bif Nat.ble mi 13 then (fun pc => bif Nat.beq mi 13 then c_U_takeLine pc else none) else (bif Nat.ble mi 14 then (fun pc => bif Nat.beq mi 14 then c_Draft_labelName pc else none) else (fun pc => bif Nat.beq mi 15 then c_Text_standLabel pc else none)))) else (bif Nat.ble mi 18 then (bif Nat.ble mi 16 then (fun pc => bif Nat.beq mi 16 then c_Labels_findOrAdd pc else none) else (bif Nat.ble mi 17 then (fun pc => bif Nat.beq mi 17 then c_Labels_find pc else none) else (fun pc => bif Nat.beq mi 18 then c_Text_layOut pc else none))) else (bif Nat.ble mi 19 then (fun pc => bif Nat.beq mi 19 then c_Text_shortenJumps pc else none) else (bif Nat.ble mi 20 then (fun pc => bif Nat.beq mi 20 then c_Text_placeItems pc else none) else (fun pc => bif Nat.beq mi 21 then c_Item_unitCount pc else none)))))) else (bif Nat.ble mi 32 then (bif Nat.ble mi 26 then (bif Nat.ble mi 23 then (bif Nat.ble mi 22 then (fun pc => bif Nat.beq mi 22 then c_Item_form pc else none) else (fun pc => bif Nat.beq mi 23 then c_Text_lengthenJumps pc else none)) else (bif Nat.ble mi 24 then (fun pc => bif Nat.beq mi 24 then c_Text_reachesShort pc else none) else (bif Nat.ble mi 25 then (fun pc => bif Nat.beq mi 25 then c_Text_addressOf pc else none) else (fun pc => bif Nat.beq mi 26 then c_Draft_kindOfFirstWord pc else none)))) else (bif Nat.ble mi 29 then (bif Nat.ble mi 27 then (fun pc => bif Nat.beq mi 27 then c_Draft_firstWordIs pc else none) else (bif Nat.ble mi 28 then (fun pc => bif Nat.beq mi 28 then c_Text_spare pc else none) else (fun pc => bif Nat.beq mi 29 then c_Item_begin pc else none))) else (bif Nat.ble mi 30 then (fun pc => bif Nat.beq mi 30 then c_U_takeArguments pc else none) else (bif Nat.ble mi 31 then (fun pc => bif Nat.beq mi 31 then c_Kind_leastArguments pc else none) else (fun pc => bif Nat.beq mi 32 then c_Kind_mostArguments pc else none))))) else (bif Nat.ble mi 37 then (bif Nat.ble mi 34 then (bif Nat.ble mi 33 then (fun pc => bif Nat.beq mi 33 then c_Kind_argument pc else none) else (fun pc => bif Nat.beq mi 34 then c_U_takeArgument pc else none)) else (bif Nat.ble mi 35 then (fun pc => bif Nat.beq mi 35 then c_Draft_number pc else none) else (bif Nat.ble mi 36 then (fun pc => bif Nat.beq mi 36 then c_Draft_digits pc else none) else (fun pc => bif Nat.beq mi 37 then c_Item_takeNumber pc else none)))) else (bif Nat.ble mi 40 then (bif Nat.ble mi 38 then (fun pc => bif Nat.beq mi 38 then c_Kind_holdsNumber pc else none) else (bif Nat.ble mi 39 then (fun pc => bif Nat.beq mi 39 then c_Item_takeName pc else none) else (fun pc => bif Nat.beq mi 40 then c_Draft_register pc else none))) else (bif Nat.ble mi 41 then (fun pc => bif Nat.beq mi 41 then c_Item_takeRegister pc else none) else (bif Nat.ble mi 42 then (fun pc => bif Nat.beq mi 42 then c_Text_keepSpare pc else none) else (fun pc => bif Nat.beq mi 43 then c_Labels_addAllOf pc else none))))))) else (bif Nat.ble mi 64 then (bif Nat.ble mi 53 then (bif Nat.ble mi 48 then (bif Nat.ble mi 45 then (bif Nat.ble mi 44 then (fun pc => bif Nat.beq mi 44 then c_U_clear pc else none) else (fun pc => bif Nat.beq mi 45 then c_Text_empty pc else none)) else (bif Nat.ble mi 46 then (fun pc => bif Nat.beq mi 46 then c_U_assemble pc else none) else (bif Nat.ble mi 47 then (fun pc => bif Nat.beq mi 47 then c_Text_allLabelsAreSet pc else none) else (fun pc => bif Nat.beq mi 48 then c_Labels_allAreSet pc else none)))) else (bif Nat.ble mi 50 then (bif Nat.ble mi 49 then (fun pc => bif Nat.beq mi 49 then c_Text_allTablesMeanCases pc else none) else (fun pc => bif Nat.beq mi 50 then c_Text_standsBeforeCases pc else none)) else (bif Nat.ble mi 51 then (fun pc => bif Nat.beq mi 51 then c_Text_writeTo pc else none) else (bif Nat.ble mi 52 then (fun pc => bif Nat.beq mi 52 then c_Code_append pc else none) else (fun pc => bif Nat.beq mi 53 then c_Text_writeCases pc else none))))) else (bif Nat.ble mi 58 then (bif Nat.ble mi 55 then (bif Nat.ble mi 54 then (fun pc => bif Nat.beq mi 54 then c_Text_writeBits pc else none) else (fun pc => bif Nat.beq mi 55 then c_Kind_fieldBits pc else none)) else (bif Nat.ble mi 56 then (fun pc => bif Nat.beq mi 56 then c_Machine_startAnew pc else none) else (bif Nat.ble mi 57 then (fun pc => bif Nat.beq mi 57 then c_U_item pc else none) else (fun pc => bif Nat.beq mi 58 then c_U_unit pc else none)))) else (bif Nat.ble mi 61 then (bif Nat.ble mi 59 then (fun pc => bif Nat.beq mi 59 then c_Code_has pc else none) else (bif Nat.ble mi 60 then (fun pc => bif Nat.beq mi 60 then c_U_set pc else none) else (fun pc => bif Nat.beq mi 61 then c_U_read pc else none))) else (bif Nat.ble mi 62 then (fun pc => bif Nat.beq mi 62 then c_Reading_canRead pc else none) else (bif Nat.ble mi 63 then (fun pc => bif Nat.beq mi 63 then c_Reading_kindOf pc else none) else (fun pc => bif Nat.beq mi 64 then c_Reading_canReadCases pc else none)))))) else (bif Nat.ble mi 75 then (bif Nat.ble mi 69 then (bif Nat.ble mi 66 then (bif Nat.ble mi 65 then (fun pc => bif Nat.beq mi 65 then c_Reading_canReadBits pc else none) else (fun pc => bif Nat.beq mi 66 then c_Kind_fieldOf pc else none)) else (bif Nat.ble mi 67 then (fun pc => bif Nat.beq mi 67 then c_Reading_part pc else none) else (bif Nat.ble mi 68 then (fun pc => bif Nat.beq mi 68 then c_Kind_has pc else none) else (fun pc => bif Nat.beq mi 69 then c_Reading_goal pc else none)))) else (bif Nat.ble mi 72 then (bif Nat.ble mi 70 then (fun pc => bif Nat.beq mi 70 then c_Reading_caseDistance pc else none) else (bif Nat.ble mi 71 then (fun pc => bif Nat.beq mi 71 then c_U_check pc else none) else (fun pc => bif Nat.beq mi 72 then c_Code_markBeginnings pc else none))) else (bif Nat.ble mi 73 then (fun pc => bif Nat.beq mi 73 then c_Code_strays pc else none) else (bif Nat.ble mi 74 then (fun pc => bif Nat.beq mi 74 then c_U_told pc else none) else (fun pc => bif Nat.beq mi 75 then c_Reading_tell pc else none))))) else (bif Nat.ble mi 80 then (bif Nat.ble mi 77 then (bif Nat.ble mi 76 then (fun pc => bif Nat.beq mi 76 then c_Reading_tellArgument pc else none) else (fun pc => bif Nat.beq mi 77 then c_Reading_tellCases pc else none)) else (bif Nat.ble mi 78 then (fun pc => bif Nat.beq mi 78 then c_U_run pc else none) else (bif Nat.ble mi 79 then (fun pc => bif Nat.beq mi 79 then c_Machine_goOn pc else none) else (fun pc => bif Nat.beq mi 80 then c_Machine_calculate pc else none)))) else (bif Nat.ble mi 83 then (bif Nat.ble mi 81 then (fun pc => bif Nat.beq mi 81 then c_Machine_moveOn pc else none) else (bif Nat.ble mi 82 then (fun pc => bif Nat.beq mi 82 then c_Machine_tableDistance pc else none) else (fun pc => bif Nat.beq mi 83 then c_Machine_leaps pc else none))) else (bif Nat.ble mi 84 then (fun pc => bif Nat.beq mi 84 then c_U_state pc else none) else (bif Nat.ble mi 85 then (fun pc => bif Nat.beq mi 85 then c_M_init pc else none) else (fun pc => bif Nat.beq mi 86 then c_M_put pc else none)))))))) else (bif Nat.ble mi 129 then (bif Nat.ble mi 107 then (bif Nat.ble mi 96 then (bif Nat.ble mi 91 then (bif Nat.ble mi 88 then (bif Nat.ble mi 87 then (fun pc => bif Nat.beq mi 87 then c_M_in pc else none) else (fun pc => bif Nat.beq mi 88 then c_M_line pc else none)) else (bif Nat.ble mi 89 then (fun pc => bif Nat.beq mi 89 then c_M_part pc else none) else (bif Nat.ble mi 90 then (fun pc => bif Nat.beq mi 90 then c_M_lineRead pc else none) else (fun pc => bif Nat.beq mi 91 then c_M_labelIn pc else none)))) else (bif Nat.ble mi 93 then (bif Nat.ble mi 92 then (fun pc => bif Nat.beq mi 92 then c_M_letters pc else none) else (fun pc => bif Nat.beq mi 93 then c_M_setLabel pc else none)) else (bif Nat.ble mi 94 then (fun pc => bif Nat.beq mi 94 then c_M_find pc else none) else (bif Nat.ble mi 95 then (fun pc => bif Nat.beq mi 95 then c_M_named pc else none) else (fun pc => bif Nat.beq mi 96 then c_M_opNamed pc else none))))) else (bif Nat.ble mi 101 then (bif Nat.ble mi 98 then (bif Nat.ble mi 97 then (fun pc => bif Nat.beq mi 97 then c_M_nameOf pc else none) else (fun pc => bif Nat.beq mi 98 then c_M_readLine pc else none)) else (bif Nat.ble mi 99 then (fun pc => bif Nat.beq mi 99 then c_M_registersOf pc else none) else (bif Nat.ble mi 100 then (fun pc => bif Nat.beq mi 100 then c_M_numberOf pc else none) else (fun pc => bif Nat.beq mi 101 then c_M_labelsOf pc else none)))) else (bif Nat.ble mi 104 then (bif Nat.ble mi 102 then (fun pc => bif Nat.beq mi 102 then c_M_registerIn pc else none) else (bif Nat.ble mi 103 then (fun pc => bif Nat.beq mi 103 then c_M_digits pc else none) else (fun pc => bif Nat.beq mi 104 then c_M_numberIn pc else none))) else (bif Nat.ble mi 105 then (fun pc => bif Nat.beq mi 105 then c_M_newNames pc else none) else (bif Nat.ble mi 106 then (fun pc => bif Nat.beq mi 106 then c_M_clear pc else none) else (fun pc => bif Nat.beq mi 107 then c_M_assemble pc else none)))))) else (bif Nat.ble mi 118 then (bif Nat.ble mi 112 then (bif Nat.ble mi 109 then (bif Nat.ble mi 108 then (fun pc => bif Nat.beq mi 108 then c_M_settle pc else none) else (fun pc => bif Nat.beq mi 109 then c_M_layOut pc else none)) else (bif Nat.ble mi 110 then (fun pc => bif Nat.beq mi 110 then c_M_sizeOf pc else none) else (bif Nat.ble mi 111 then (fun pc => bif Nat.beq mi 111 then c_M_distance pc else none) else (fun pc => bif Nat.beq mi 112 then c_M_meaning pc else none)))) else (bif Nat.ble mi 115 then (bif Nat.ble mi 113 then (fun pc => bif Nat.beq mi 113 then c_M_isCasesAt pc else none) else (bif Nat.ble mi 114 then (fun pc => bif Nat.beq mi 114 then c_M_write pc else none) else (fun pc => bif Nat.beq mi 115 then c_M_rest pc else none))) else (bif Nat.ble mi 116 then (fun pc => bif Nat.beq mi 116 then c_M_item pc else none) else (bif Nat.ble mi 117 then (fun pc => bif Nat.beq mi 117 then c_M_unit pc else none) else (fun pc => bif Nat.beq mi 118 then c_M_set pc else none))))) else (bif Nat.ble mi 123 then (bif Nat.ble mi 120 then (bif Nat.ble mi 119 then (fun pc => bif Nat.beq mi 119 then c_M_read pc else none) else (fun pc => bif Nat.beq mi 120 then c_M_look pc else none)) else (bif Nat.ble mi 121 then (fun pc => bif Nat.beq mi 121 then c_M_signed pc else none) else (bif Nat.ble mi 122 then (fun pc => bif Nat.beq mi 122 then c_M_caseAt pc else none) else (fun pc => bif Nat.beq mi 123 then c_M_check pc else none)))) else (bif Nat.ble mi 126 then (bif Nat.ble mi 124 then (fun pc => bif Nat.beq mi 124 then c_M_told pc else none) else (bif Nat.ble mi 125 then (fun pc => bif Nat.beq mi 125 then c_M_letter pc else none) else (fun pc => bif Nat.beq mi 126 then c_M_tellRegister pc else none))) else (bif Nat.ble mi 127 then (fun pc => bif Nat.beq mi 127 then c_M_tell pc else none) else (bif Nat.ble mi 128 then (fun pc => bif Nat.beq mi 128 then c_M_tellNumber pc else none) else (fun pc => bif Nat.beq mi 129 then c_M_run pc else none))))))) else (bif Nat.ble mi 150 then (bif Nat.ble mi 139 then (bif Nat.ble mi 134 then (bif Nat.ble mi 131 then (bif Nat.ble mi 130 then (fun pc => bif Nat.beq mi 130 then c_M_step pc else none) else (fun pc => bif Nat.beq mi 131 then c_M_choose pc else none)) else (bif Nat.ble mi 132 then (fun pc => bif Nat.beq mi 132 then c_M_state pc else none) else (bif Nat.ble mi 133 then (fun pc => bif Nat.beq mi 133 then c_M_longs pc else none) else (fun pc => bif Nat.beq mi 134 then c_L_law pc else none)))) else (bif Nat.ble mi 136 then (bif Nat.ble mi 135 then (fun pc => bif Nat.beq mi 135 then c_String_length pc else none) else (fun pc => bif Nat.beq mi 136 then c_String_coder pc else none)) else (bif Nat.ble mi 137 then (fun pc => bif Nat.beq mi 137 then c_String_charAt pc else none) else (bif Nat.ble mi 138 then (fun pc => bif Nat.beq mi 138 then c_String_isLatin1 pc else none) else (fun pc => bif Nat.beq mi 139 then c_String_indexOf pc else none))))) else (bif Nat.ble mi 144 then (bif Nat.ble mi 141 then (bif Nat.ble mi 140 then (fun pc => bif Nat.beq mi 140 then c_String_indexOf2 pc else none) else (fun pc => bif Nat.beq mi 141 then c_String_getBytes pc else none)) else (bif Nat.ble mi 142 then (fun pc => bif Nat.beq mi 142 then c_String_checkIndex pc else none) else (bif Nat.ble mi 143 then (fun pc => bif Nat.beq mi 143 then c_StringLatin1_charAt pc else none) else (fun pc => bif Nat.beq mi 144 then c_StringLatin1_indexOf pc else none)))) else (bif Nat.ble mi 147 then (bif Nat.ble mi 145 then (fun pc => bif Nat.beq mi 145 then c_StringLatin1_canEncode pc else none) else (bif Nat.ble mi 146 then (fun pc => bif Nat.beq mi 146 then c_StringLatin1_canEncode2 pc else none) else (fun pc => bif Nat.beq mi 147 then c_StringLatin1_indexOfChar pc else none))) else (bif Nat.ble mi 148 then (fun pc => bif Nat.beq mi 148 then c_Preconditions_checkIndex pc else none) else (bif Nat.ble mi 149 then (fun pc => bif Nat.beq mi 149 then c_SB_init pc else none) else (fun pc => bif Nat.beq mi 150 then c_SB_append pc else none)))))) else (bif Nat.ble mi 161 then (bif Nat.ble mi 155 then (bif Nat.ble mi 152 then (bif Nat.ble mi 151 then (fun pc => bif Nat.beq mi 151 then c_SB_append2 pc else none) else (fun pc => bif Nat.beq mi 152 then c_SB_append3 pc else none)) else (bif Nat.ble mi 153 then (fun pc => bif Nat.beq mi 153 then c_SB_charAt pc else none) else (bif Nat.ble mi 154 then (fun pc => bif Nat.beq mi 154 then c_SB_length pc else none) else (fun pc => bif Nat.beq mi 155 then c_SB_setLength pc else none)))) else (bif Nat.ble mi 158 then (bif Nat.ble mi 156 then (fun pc => bif Nat.beq mi 156 then c_ASB_init pc else none) else (bif Nat.ble mi 157 then (fun pc => bif Nat.beq mi 157 then c_ASB_append pc else none) else (fun pc => bif Nat.beq mi 158 then c_ASB_append2 pc else none))) else (bif Nat.ble mi 159 then (fun pc => bif Nat.beq mi 159 then c_ASB_append3 pc else none) else (bif Nat.ble mi 160 then (fun pc => bif Nat.beq mi 160 then c_ASB_charAt pc else none) else (fun pc => bif Nat.beq mi 161 then c_ASB_ensureCapacityInternal pc else none))))) else (bif Nat.ble mi 166 then (bif Nat.ble mi 163 then (bif Nat.ble mi 162 then (fun pc => bif Nat.beq mi 162 then c_ASB_newCapacity pc else none) else (fun pc => bif Nat.beq mi 163 then c_ASB_isLatin1 pc else none)) else (bif Nat.ble mi 164 then (fun pc => bif Nat.beq mi 164 then c_ASB_length pc else none) else (bif Nat.ble mi 165 then (fun pc => bif Nat.beq mi 165 then c_ASB_putStringAt pc else none) else (fun pc => bif Nat.beq mi 166 then c_ASB_inflateIfNeededFor pc else none)))) else (bif Nat.ble mi 169 then (bif Nat.ble mi 167 then (fun pc => bif Nat.beq mi 167 then c_ASB_setLength pc else none) else (bif Nat.ble mi 168 then (fun pc => bif Nat.beq mi 168 then c_ArraysSupport_newLength pc else none) else (fun pc => bif Nat.beq mi 169 then c_Arrays_copyOf pc else none))) else (bif Nat.ble mi 170 then (fun pc => bif Nat.beq mi 170 then c_Integer_stringSize pc else none) else (bif Nat.ble mi 171 then (fun pc => bif Nat.beq mi 171 then c_Integer_getChars pc else none) else (fun pc => bif Nat.beq mi 172 then c_Enum_ordinal pc else none)))))))))
def pg_kc (k : Nat) : Nat := ([0, 0, 1, 2, 0, 0, 0, 3, 0, 4, 0, 0, 0, 5, 0, 0, 6, 0, 0, 7, 0, 0, 8, 0, 10, 0, 9, 0, 0, 0, 0, 0, 0, 0, 0, 0, 0, 0, 0, 0, 0, 0, 0, 0, 0, 0, 0, 0, 0, 0, 11, 0, 0, 12, 0, 0, 0, 0] : List Nat).getD k 0
def pg_ak (k : Nat) : Nat := ([0, 0, 0, 0, 1, 1, 1, 0, 5, 0, 1, 1, 1, 0, 1, 1, 0, 1, 1, 0, 1, 1, 0, 1, 0, 2, 0, 1, 1, 1, 1, 1, 1, 1, 1, 1, 1, 1, 1, 1, 4, 1, 1, 4, 4, 1, 1, 0, 0, 0, 0, 5, 1, 0, 2, 2, 2, 1] : List Nat).getD k 0
def pg_sg (a : Nat) : eg_V := ([.inr (50, 0), .inr (50, 1), .inr (50, 2), .inr (50, 3), .inr (50, 4), .inr (50, 5), .inr (50, 6), .inr (50, 7), .inr (50, 8), .inr (50, 9), .inr (50, 10), .inr (50, 11), .inr (50, 12), .inr (50, 13), .inr (50, 14), .inr (50, 15), .inr (51, 0), .inr (52, 0), .inl 1, .inr (55, 0), .inr (56, 0), .inr (1, 0)] : List eg_V).getD a (.inl 0)
def pg_mt (mi : Nat) : Nat × Nat × Nat := ([(1, 0, 0), (1, 400, 3000), (1, 3, 120), (1, 168, 847), (1, 2, 24), (1, 3, 11), (1, 2, 400), (1, 2, 7), (1, 4, 30), (2, 0, 0), (2, 0, 0), (1, 0, 0), (1, 0, 0), (1, 0, 0), (2, 0, 0), (2, 0, 0), (2, 0, 0), (2, 0, 0), (1, 0, 0), (1, 0, 0), (1, 0, 0), (1, 0, 0), (1, 0, 0), (1, 0, 0), (2, 0, 0), (2, 0, 0), (1, 0, 0), (2, 0, 0), (1, 0, 0), (2, 0, 0), (2, 0, 0), (1, 0, 0), (1, 0, 0), (2, 0, 0), (4, 0, 0), (2, 0, 0), (3, 0, 0), (2, 0, 0), (2, 0, 0), (2, 0, 0), (2, 0, 0), (3, 0, 0), (1, 0, 0), (2, 0, 0), (1, 0, 0), (1, 0, 0), (1, 0, 0), (1, 0, 0), (1, 0, 0), (1, 0, 0), (2, 0, 0), (2, 0, 0), (2, 0, 0), (4, 0, 0), (3, 0, 0), (2, 0, 0), (1, 0, 0), (3, 0, 0), (2, 0, 0), (2, 0, 0), (3, 0, 0), (3, 0, 0), (3, 0, 0), (2, 0, 0), (2, 0, 0), (2, 0, 0), (2, 0, 0), (2, 0, 0), (2, 0, 0), (1, 0, 0), (2, 0, 0), (1, 0, 0), (2, 0, 0), (2, 0, 0), (3, 41, 8200), (2, 40, 8000), (3, 8, 1600), (2, 8, 1600), (2, 0, 0), (4, 0, 0), (2, 0, 0), (3, 0, 0), (4, 0, 0), (3, 0, 0), (2, 0, 0), (1, 20, 2000), (2, 0, 0), (3, 0, 0), (1, 0, 0), (1, 0, 0), (1, 0, 0), (2, 0, 0), (3, 0, 0), (2, 0, 0), (2, 0, 0), (2, 0, 0), (1, 0, 0), (1, 0, 0), (1, 0, 0), (1, 0, 0), (1, 0, 0), (1, 0, 0), (2, 0, 0), (3, 0, 0), (4, 0, 0), (1, 0, 0), (1, 0, 0), (1, 0, 0), (1, 0, 0), (1, 0, 0), (2, 0, 0), (2, 0, 0), (2, 0, 0), (2, 0, 0), (3, 0, 0), (2, 0, 0), (3, 0, 0), (2, 0, 0), (3, 0, 0), (3, 0, 0), (2, 0, 0), (2, 0, 0), (3, 0, 0), (1, 0, 0), (3, 0, 0), (2, 0, 0), (2, 0, 0), (2, 0, 0), (2, 0, 0), (2, 0, 0), (1, 0, 0), (1, 0, 0), (2, 0, 0), (1, 0, 0), (1, 600000, 7302250), (1, 0, 0), (1, 0, 0), (2, 0, 0), (1, 0, 0), (2, 0, 0), (3, 0, 0), (4, 0, 0), (2, 0, 0), (2, 0, 0), (4, 0, 0), (1, 0, 0), (1, 0, 0), (4, 0, 0), (3, 0, 0), (1, 1, 16), (2, 1, 200), (2, 1, 200), (2, 1, 200), (2, 0, 0), (1, 0, 0), (2, 1, 200), (2, 1, 16), (2, 1, 200), (2, 1, 200), (2, 1, 200), (2, 0, 0), (2, 1, 200), (2, 0, 0), (1, 0, 0), (1, 0, 0), (3, 0, 0), (2, 0, 0), (2, 1, 200), (3, 0, 0), (2, 1, 200), (1, 0, 0), (3, 0, 0), (1, 0, 0), (5, 0, 0)] : List (Nat × Nat × Nat)).getD mi (0, 0, 0)
def pg_nf (b : Nat) : Nat := ([0, 6, 5, 5, 8, 3, 3, 7, 6, 45, 4, 8, 2] : List Nat).getD b 0
def pg_ft (b a : Nat) : Nat := (([[], [3, 3, 3, 3, 3, 3], [3, 1, 3, 3, 1], [3, 1, 3, 1, 1], [3, 2, 3, 1, 1, 3, 3, 1], [3, 3, 1], [3, 1, 3], [3, 1, 1, 3, 1, 1, 3], [3, 1, 1, 1, 1, 3], [3, 3, 3, 1, 1, 3, 3, 3, 3, 3, 3, 3, 1, 3, 3, 1, 1, 1, 1, 1, 1, 1, 3, 3, 3, 1, 3, 1, 1, 1, 1, 1, 1, 1, 1, 1, 3, 3, 3, 1, 3, 1, 1, 1, 1], [3, 4, 2, 1], [1, 1, 1, 3, 3, 1, 1, 2], [3, 4]] : List (List Nat)).getD b []).getD a 0
abbrev pg_T : eg_T := (pg_ins, pg_kc, pg_ak, pg_sg, pg_mt, pg_nf, pg_ft)
end
section
/-! THE PROGRAM for the machine: names, bytes, rooms of its methods; its classes (printed by wip/whole/tools/mach.py) -/
def pm_y (mi : Nat) : MethodName := ([⟨"java/lang/Object", "<init>", "()V"⟩, ⟨"UnitDesk", "<init>", "()V"⟩, ⟨"UnitDesk$Draft", "<init>", "()V"⟩, ⟨"UnitDesk$Text", "<init>", "()V"⟩, ⟨"UnitDesk$Labels", "<init>", "()V"⟩, ⟨"UnitDesk$Item", "<init>", "()V"⟩, ⟨"UnitDesk$Code", "<init>", "()V"⟩, ⟨"UnitDesk$Reading", "<init>", "()V"⟩, ⟨"UnitDesk$Machine", "<init>", "()V"⟩, ⟨"UnitDesk", "put", "(I)I"⟩, ⟨"UnitDesk$Draft", "append", "(I)I"⟩, ⟨"UnitDesk", "line", "()I"⟩, ⟨"UnitDesk$Draft", "partIntoWords", "()V"⟩, ⟨"UnitDesk", "takeLine", "()I"⟩, ⟨"UnitDesk$Draft", "labelName", "(I)I"⟩, ⟨"UnitDesk$Text", "standLabel", "(I)I"⟩, ⟨"UnitDesk$Labels", "findOrAdd", "(I)I"⟩, ⟨"UnitDesk$Labels", "find", "(I)I"⟩, ⟨"UnitDesk$Text", "layOut", "()V"⟩, ⟨"UnitDesk$Text", "shortenJumps", "()V"⟩, ⟨"UnitDesk$Text", "placeItems", "()V"⟩, ⟨"UnitDesk$Item", "unitCount", "()I"⟩, ⟨"UnitDesk$Item", "form", "()LUnitDesk$Kind;"⟩, ⟨"UnitDesk$Text", "lengthenJumps", "()Z"⟩, ⟨"UnitDesk$Text", "reachesShort", "(LUnitDesk$Item;)Z"⟩, ⟨"UnitDesk$Text", "addressOf", "(I)I"⟩, ⟨"UnitDesk$Draft", "kindOfFirstWord", "()LUnitDesk$Kind;"⟩, ⟨"UnitDesk$Draft", "firstWordIs", "(Ljava/lang/String;)Z"⟩, ⟨"UnitDesk$Text", "spare", "()LUnitDesk$Item;"⟩, ⟨"UnitDesk$Item", "begin", "(LUnitDesk$Kind;)V"⟩, ⟨"UnitDesk", "takeArguments", "(LUnitDesk$Item;)Z"⟩, ⟨"UnitDesk$Kind", "leastArguments", "()I"⟩, ⟨"UnitDesk$Kind", "mostArguments", "()I"⟩, ⟨"UnitDesk$Kind", "argument", "(I)C"⟩, ⟨"UnitDesk", "takeArgument", "(LUnitDesk$Item;CI)Z"⟩, ⟨"UnitDesk$Draft", "number", "(I)I"⟩, ⟨"UnitDesk$Draft", "digits", "(II)I"⟩, ⟨"UnitDesk$Item", "takeNumber", "(I)Z"⟩, ⟨"UnitDesk$Kind", "holdsNumber", "(I)Z"⟩, ⟨"UnitDesk$Item", "takeName", "(I)Z"⟩, ⟨"UnitDesk$Draft", "register", "(I)I"⟩, ⟨"UnitDesk$Item", "takeRegister", "(II)Z"⟩, ⟨"UnitDesk$Text", "keepSpare", "()I"⟩, ⟨"UnitDesk$Labels", "addAllOf", "(LUnitDesk$Item;)Z"⟩, ⟨"UnitDesk", "clear", "()I"⟩, ⟨"UnitDesk$Text", "empty", "()V"⟩, ⟨"UnitDesk", "assemble", "()I"⟩, ⟨"UnitDesk$Text", "allLabelsAreSet", "()Z"⟩, ⟨"UnitDesk$Labels", "allAreSet", "()Z"⟩, ⟨"UnitDesk$Text", "allTablesMeanCases", "()Z"⟩, ⟨"UnitDesk$Text", "standsBeforeCases", "(I)Z"⟩, ⟨"UnitDesk$Text", "writeTo", "(LUnitDesk$Code;)V"⟩, ⟨"UnitDesk$Code", "append", "(I)V"⟩, ⟨"UnitDesk$Text", "writeCases", "(LUnitDesk$Code;LUnitDesk$Item;I)V"⟩, ⟨"UnitDesk$Text", "writeBits", "(LUnitDesk$Code;LUnitDesk$Item;)V"⟩, ⟨"UnitDesk$Kind", "fieldBits", "(I)I"⟩, ⟨"UnitDesk$Machine", "startAnew", "()V"⟩, ⟨"UnitDesk", "item", "(II)I"⟩, ⟨"UnitDesk", "unit", "(I)I"⟩, ⟨"UnitDesk$Code", "has", "(I)Z"⟩, ⟨"UnitDesk", "set", "(II)I"⟩, ⟨"UnitDesk", "read", "(II)I"⟩, ⟨"UnitDesk$Reading", "canRead", "(LUnitDesk$Code;I)Z"⟩, ⟨"UnitDesk$Reading", "kindOf", "(I)LUnitDesk$Kind;"⟩, ⟨"UnitDesk$Reading", "canReadCases", "(LUnitDesk$Code;)Z"⟩, ⟨"UnitDesk$Reading", "canReadBits", "(LUnitDesk$Code;)Z"⟩, ⟨"UnitDesk$Kind", "fieldOf", "(I)I"⟩, ⟨"UnitDesk$Reading", "part", "(I)I"⟩, ⟨"UnitDesk$Kind", "has", "(C)Z"⟩, ⟨"UnitDesk$Reading", "goal", "()I"⟩, ⟨"UnitDesk$Reading", "caseDistance", "(I)I"⟩, ⟨"UnitDesk", "check", "()I"⟩, ⟨"UnitDesk$Code", "markBeginnings", "(LUnitDesk$Reading;)I"⟩, ⟨"UnitDesk$Code", "strays", "(LUnitDesk$Reading;)Z"⟩, ⟨"UnitDesk", "told", "(II)I"⟩, ⟨"UnitDesk$Reading", "tell", "(Ljava/lang/StringBuilder;)V"⟩, ⟨"UnitDesk$Reading", "tellArgument", "(CLjava/lang/StringBuilder;)V"⟩, ⟨"UnitDesk$Reading", "tellCases", "(Ljava/lang/StringBuilder;)V"⟩, ⟨"UnitDesk", "run", "(I)I"⟩, ⟨"UnitDesk$Machine", "goOn", "(LUnitDesk$Code;LUnitDesk$Reading;I)I"⟩, ⟨"UnitDesk$Machine", "calculate", "(LUnitDesk$Reading;)V"⟩, ⟨"UnitDesk$Machine", "moveOn", "(LUnitDesk$Code;LUnitDesk$Reading;)V"⟩, ⟨"UnitDesk$Machine", "tableDistance", "(LUnitDesk$Code;LUnitDesk$Reading;I)I"⟩, ⟨"UnitDesk$Machine", "leaps", "(LUnitDesk$Reading;I)Z"⟩, ⟨"UnitDesk", "state", "(I)I"⟩, ⟨"UnitDeskModel", "<init>", "()V"⟩, ⟨"UnitDeskModel", "put", "(I)I"⟩, ⟨"UnitDeskModel", "in", "(III)Z"⟩, ⟨"UnitDeskModel", "line", "()I"⟩, ⟨"UnitDeskModel", "part", "()V"⟩, ⟨"UnitDeskModel", "lineRead", "()I"⟩, ⟨"UnitDeskModel", "labelIn", "(I)I"⟩, ⟨"UnitDeskModel", "letters", "(II)I"⟩, ⟨"UnitDeskModel", "setLabel", "(I)I"⟩, ⟨"UnitDeskModel", "find", "(I)I"⟩, ⟨"UnitDeskModel", "named", "(I)I"⟩, ⟨"UnitDeskModel", "opNamed", "(I)I"⟩, ⟨"UnitDeskModel", "nameOf", "(I)I"⟩, ⟨"UnitDeskModel", "readLine", "()Z"⟩, ⟨"UnitDeskModel", "registersOf", "(I)I"⟩, ⟨"UnitDeskModel", "numberOf", "(I)I"⟩, ⟨"UnitDeskModel", "labelsOf", "(I)I"⟩, ⟨"UnitDeskModel", "registerIn", "(I)I"⟩, ⟨"UnitDeskModel", "digits", "(II)I"⟩, ⟨"UnitDeskModel", "numberIn", "(III)I"⟩, ⟨"UnitDeskModel", "newNames", "()I"⟩, ⟨"UnitDeskModel", "clear", "()I"⟩, ⟨"UnitDeskModel", "assemble", "()I"⟩, ⟨"UnitDeskModel", "settle", "()V"⟩, ⟨"UnitDeskModel", "layOut", "()V"⟩, ⟨"UnitDeskModel", "sizeOf", "(I)I"⟩, ⟨"UnitDeskModel", "distance", "(I)I"⟩, ⟨"UnitDeskModel", "meaning", "(I)I"⟩, ⟨"UnitDeskModel", "isCasesAt", "(I)Z"⟩, ⟨"UnitDeskModel", "write", "(II)V"⟩, ⟨"UnitDeskModel", "rest", "(I)I"⟩, ⟨"UnitDeskModel", "item", "(II)I"⟩, ⟨"UnitDeskModel", "unit", "(I)I"⟩, ⟨"UnitDeskModel", "set", "(II)I"⟩, ⟨"UnitDeskModel", "read", "(II)I"⟩, ⟨"UnitDeskModel", "look", "(I)Z"⟩, ⟨"UnitDeskModel", "signed", "(II)I"⟩, ⟨"UnitDeskModel", "caseAt", "(II)I"⟩, ⟨"UnitDeskModel", "check", "()I"⟩, ⟨"UnitDeskModel", "told", "(II)I"⟩, ⟨"UnitDeskModel", "letter", "(I)V"⟩, ⟨"UnitDeskModel", "tellRegister", "(I)V"⟩, ⟨"UnitDeskModel", "tell", "(I)V"⟩, ⟨"UnitDeskModel", "tellNumber", "(I)V"⟩, ⟨"UnitDeskModel", "run", "(I)I"⟩, ⟨"UnitDeskModel", "step", "()V"⟩, ⟨"UnitDeskModel", "choose", "()I"⟩, ⟨"UnitDeskModel", "state", "(I)I"⟩, ⟨"UnitDeskModel", "longs", "()I"⟩, ⟨"UnitDeskLaw", "law", "([I)Z"⟩, ⟨"java/lang/String", "length", "()I"⟩, ⟨"java/lang/String", "coder", "()B"⟩, ⟨"java/lang/String", "charAt", "(I)C"⟩, ⟨"java/lang/String", "isLatin1", "()Z"⟩, ⟨"java/lang/String", "indexOf", "(I)I"⟩, ⟨"java/lang/String", "indexOf", "(II)I"⟩, ⟨"java/lang/String", "getBytes", "([BIB)V"⟩, ⟨"java/lang/String", "checkIndex", "(II)V"⟩, ⟨"java/lang/StringLatin1", "charAt", "([BI)C"⟩, ⟨"java/lang/StringLatin1", "indexOf", "([BIII)I"⟩, ⟨"java/lang/StringLatin1", "canEncode", "(I)Z"⟩, ⟨"java/lang/StringLatin1", "canEncode", "(C)Z"⟩, ⟨"java/lang/StringLatin1", "indexOfChar", "([BIII)I"⟩, ⟨"jdk/internal/util/Preconditions", "checkIndex", "(IILjava/util/function/BiFunction;)I"⟩, ⟨"java/lang/StringBuilder", "<init>", "()V"⟩, ⟨"java/lang/StringBuilder", "append", "(C)Ljava/lang/StringBuilder;"⟩, ⟨"java/lang/StringBuilder", "append", "(I)Ljava/lang/StringBuilder;"⟩, ⟨"java/lang/StringBuilder", "append", "(Ljava/lang/String;)Ljava/lang/StringBuilder;"⟩, ⟨"java/lang/StringBuilder", "charAt", "(I)C"⟩, ⟨"java/lang/StringBuilder", "length", "()I"⟩, ⟨"java/lang/StringBuilder", "setLength", "(I)V"⟩, ⟨"java/lang/AbstractStringBuilder", "<init>", "(I)V"⟩, ⟨"java/lang/AbstractStringBuilder", "append", "(C)Ljava/lang/AbstractStringBuilder;"⟩, ⟨"java/lang/AbstractStringBuilder", "append", "(I)Ljava/lang/AbstractStringBuilder;"⟩, ⟨"java/lang/AbstractStringBuilder", "append", "(Ljava/lang/String;)Ljava/lang/AbstractStringBuilder;"⟩, ⟨"java/lang/AbstractStringBuilder", "charAt", "(I)C"⟩, ⟨"java/lang/AbstractStringBuilder", "ensureCapacityInternal", "(I)V"⟩, ⟨"java/lang/AbstractStringBuilder", "newCapacity", "(I)I"⟩, ⟨"java/lang/AbstractStringBuilder", "isLatin1", "()Z"⟩, ⟨"java/lang/AbstractStringBuilder", "length", "()I"⟩, ⟨"java/lang/AbstractStringBuilder", "putStringAt", "(ILjava/lang/String;)V"⟩, ⟨"java/lang/AbstractStringBuilder", "inflateIfNeededFor", "(Ljava/lang/String;)V"⟩, ⟨"java/lang/AbstractStringBuilder", "setLength", "(I)V"⟩, ⟨"jdk/internal/util/ArraysSupport", "newLength", "(III)I"⟩, ⟨"java/util/Arrays", "copyOf", "([BI)[B"⟩, ⟨"java/lang/Integer", "stringSize", "(I)I"⟩, ⟨"java/lang/Integer", "getChars", "(II[B)I"⟩, ⟨"java/lang/Enum", "ordinal", "()I"⟩] : List MethodName).getD mi ⟨"", "", ""⟩
def pm_b (mi : Nat) : ByteArray := ([⟨#[0xb1]⟩, prog_1_method_1_code, prog_4_method_1_code, prog_10_method_1_code, prog_7_method_1_code, prog_5_method_1_code, prog_3_method_1_code, prog_9_method_1_code, prog_8_method_1_code, prog_1_method_2_code, prog_4_method_2_code, prog_1_method_3_code, prog_4_method_3_code, prog_1_method_14_code, prog_4_method_9_code, prog_10_method_5_code, prog_7_method_3_code, prog_7_method_2_code, prog_10_method_9_code, prog_10_method_10_code, prog_10_method_11_code, prog_5_method_7_code, prog_5_method_6_code, prog_10_method_12_code, prog_10_method_13_code, prog_10_method_14_code, prog_4_method_4_code, prog_4_method_5_code, prog_10_method_3_code, prog_5_method_2_code, prog_1_method_15_code, prog_6_method_4_code, prog_6_method_5_code, prog_6_method_6_code, prog_1_method_16_code, prog_4_method_7_code, prog_4_method_8_code, prog_5_method_4_code, prog_6_method_8_code, prog_5_method_5_code, prog_4_method_6_code, prog_5_method_3_code, prog_10_method_4_code, prog_7_method_4_code, prog_1_method_4_code, prog_10_method_2_code, prog_1_method_5_code, prog_10_method_6_code, prog_7_method_5_code, prog_10_method_7_code, prog_10_method_8_code, prog_10_method_15_code, prog_3_method_3_code, prog_10_method_16_code, prog_10_method_17_code, prog_6_method_9_code, prog_8_method_2_code, prog_1_method_6_code, prog_1_method_7_code, prog_3_method_2_code, prog_1_method_8_code, prog_1_method_9_code, prog_9_method_2_code, prog_9_method_3_code, prog_9_method_4_code, prog_9_method_5_code, prog_6_method_10_code, prog_9_method_7_code, prog_6_method_7_code, prog_9_method_6_code, prog_9_method_8_code, prog_1_method_10_code, prog_3_method_4_code, prog_3_method_5_code, prog_1_method_11_code, prog_9_method_9_code, prog_9_method_10_code, prog_9_method_11_code, prog_1_method_12_code, prog_8_method_3_code, prog_8_method_4_code, prog_8_method_5_code, prog_8_method_7_code, prog_8_method_6_code, prog_1_method_13_code, prog_12_method_1_code, prog_12_method_6_code, prog_12_method_2_code, prog_12_method_22_code, prog_12_method_7_code, prog_12_method_21_code, prog_12_method_9_code, prog_12_method_8_code, prog_12_method_19_code, prog_12_method_17_code, prog_12_method_18_code, prog_12_method_5_code, prog_12_method_4_code, prog_12_method_16_code, prog_12_method_13_code, prog_12_method_14_code, prog_12_method_15_code, prog_12_method_11_code, prog_12_method_10_code, prog_12_method_12_code, prog_12_method_20_code, prog_12_method_23_code, prog_12_method_32_code, prog_12_method_28_code, prog_12_method_25_code, prog_12_method_24_code, prog_12_method_27_code, prog_12_method_26_code, prog_12_method_29_code, prog_12_method_31_code, prog_12_method_30_code, prog_12_method_33_code, prog_12_method_34_code, prog_12_method_35_code, prog_12_method_38_code, prog_12_method_36_code, prog_12_method_3_code, prog_12_method_37_code, prog_12_method_39_code, prog_12_method_44_code, prog_12_method_40_code, prog_12_method_42_code, prog_12_method_41_code, prog_12_method_43_code, prog_12_method_47_code, prog_12_method_46_code, prog_12_method_45_code, prog_12_method_49_code, prog_12_method_48_code, code, prog_19_method_54_code, prog_19_method_152_code, prog_19_method_56_code, prog_19_method_154_code, prog_19_method_79_code, prog_19_method_80_code, prog_19_method_147_code, prog_19_method_155_code, prog_21_method_2_code, prog_21_method_22_code, prog_21_method_4_code, prog_21_method_3_code, prog_21_method_23_code, prog_26_method_11_code, prog_20_method_1_code, prog_20_method_14_code, prog_20_method_15_code, prog_20_method_7_code, prog_20_method_88_code, prog_20_method_93_code, prog_20_method_89_code, prog_13_method_2_code, prog_13_method_31_code, prog_13_method_32_code, prog_13_method_22_code, prog_13_method_14_code, prog_13_method_9_code, prog_13_method_10_code, prog_13_method_68_code, prog_13_method_6_code, prog_13_method_73_code, prog_13_method_71_code, prog_13_method_13_code, prog_25_method_27_code, prog_24_method_121_code, prog_17_method_13_code, prog_17_method_12_code, prog_16_method_2_code] : List ByteArray).getD mi ⟨#[0xb1]⟩
def pm_l (mi : Nat) : Nat := ([1, 1, 1, 2, 1, 1, 1, 1, 1, 2, 2, 2, 4, 4, 6, 3, 3, 3, 3, 2, 3, 1, 1, 4, 3, 3, 2, 4, 1, 2, 4, 1, 1, 2, 4, 4, 6, 2, 3, 2, 3, 3, 1, 5, 2, 1, 1, 1, 2, 2, 3, 5, 2, 5, 6, 3, 2, 4, 2, 2, 3, 3, 4, 4, 3, 3, 3, 2, 2, 1, 2, 3, 4, 4, 3, 3, 3, 3, 2, 5, 5, 4, 5, 4, 2, 1, 2, 3, 2, 3, 4, 2, 5, 3, 3, 3, 2, 1, 6, 1, 1, 1, 3, 5, 7, 5, 2, 3, 4, 3, 2, 2, 2, 3, 8, 2, 3, 2, 3, 4, 4, 2, 3, 4, 8, 2, 2, 4, 2, 4, 5, 7, 2, 3, 4, 1, 1, 2, 1, 2, 3, 4, 2, 2, 4, 1, 1, 6, 3, 1, 2, 2, 2, 2, 1, 2, 2, 2, 4, 3, 5, 3, 6, 1, 1, 3, 2, 2, 4, 3, 4, 7, 1] : List Nat).getD mi 0
def pm_r (mi : Nat) : Option FieldType := ([none, none, none, none, none, none, none, none, none, (some .int), (some .int), (some .int), none, (some .int), (some .int), (some .int), (some .int), (some .int), none, none, none, (some .int), (some (.object "UnitDesk$Kind")), (some .boolean), (some .boolean), (some .int), (some (.object "UnitDesk$Kind")), (some .boolean), (some (.object "UnitDesk$Item")), none, (some .boolean), (some .int), (some .int), (some .char), (some .boolean), (some .int), (some .int), (some .boolean), (some .boolean), (some .boolean), (some .int), (some .boolean), (some .int), (some .boolean), (some .int), none, (some .int), (some .boolean), (some .boolean), (some .boolean), (some .boolean), none, none, none, none, (some .int), none, (some .int), (some .int), (some .boolean), (some .int), (some .int), (some .boolean), (some (.object "UnitDesk$Kind")), (some .boolean), (some .boolean), (some .int), (some .int), (some .boolean), (some .int), (some .int), (some .int), (some .int), (some .boolean), (some .int), none, none, none, (some .int), (some .int), none, none, (some .int), (some .boolean), (some .int), none, (some .int), (some .boolean), (some .int), none, (some .int), (some .int), (some .int), (some .int), (some .int), (some .int), (some .int), (some .int), (some .boolean), (some .int), (some .int), (some .int), (some .int), (some .int), (some .int), (some .int), (some .int), (some .int), none, none, (some .int), (some .int), (some .int), (some .boolean), none, (some .int), (some .int), (some .int), (some .int), (some .int), (some .boolean), (some .int), (some .int), (some .int), (some .int), none, none, none, none, (some .int), none, (some .int), (some .int), (some .int), (some .boolean), (some .int), (some .byte), (some .char), (some .boolean), (some .int), (some .int), none, none, (some .char), (some .int), (some .boolean), (some .boolean), (some .int), (some .int), none, (some (.object "java/lang/StringBuilder")), (some (.object "java/lang/StringBuilder")), (some (.object "java/lang/StringBuilder")), (some .char), (some .int), none, none, (some (.object "java/lang/AbstractStringBuilder")), (some (.object "java/lang/AbstractStringBuilder")), (some (.object "java/lang/AbstractStringBuilder")), (some .char), none, (some .int), (some .boolean), (some .int), none, none, none, (some .int), (some (.array .byte)), (some .int), (some .int), (some .int)] : List (Option FieldType)).getD mi none
def pm_f (mi : Nat) : Nat × Nat := ([(0, 0), (3, 81), (1, 40), (2, 60), (1, 40), (1, 40), (1, 40), (1, 40), (2, 60), (1, 21), (0, 0), (7, 152), (0, 0), (6, 129), (0, 0), (4, 89), (1, 22), (0, 0), (3, 67), (0, 0), (2, 40), (1, 20), (0, 0), (2, 44), (1, 22), (0, 0), (5, 108), (4, 85), (0, 0), (0, 0), (5, 106), (2, 40), (2, 40), (4, 85), (2, 48), (1, 25), (0, 0), (1, 22), (0, 0), (0, 0), (1, 25), (0, 0), (4, 89), (2, 44), (5, 109), (4, 89), (3, 71), (1, 21), (0, 0), (1, 22), (0, 0), (2, 47), (0, 0), (1, 22), (1, 22), (0, 0), (0, 0), (2, 40), (1, 21), (0, 0), (1, 21), (6, 148), (2, 44), (0, 0), (1, 21), (1, 22), (0, 0), (5, 127), (4, 106), (0, 0), (0, 0), (4, 90), (3, 67), (1, 21), (9, 220), (8, 198), (7, 176), (6, 154), (6, 138), (5, 114), (1, 20), (4, 91), (3, 67), (1, 20), (0, 0), (1, 40), (1, 22), (0, 0), (5, 120), (0, 0), (4, 97), (2, 46), (1, 22), (2, 44), (0, 0), (1, 22), (1, 20), (0, 0), (3, 72), (0, 0), (0, 0), (0, 0), (2, 46), (1, 22), (2, 46), (1, 22), (0, 0), (4, 88), (3, 65), (2, 43), (1, 22), (1, 21), (0, 0), (0, 0), (2, 43), (0, 0), (4, 88), (1, 22), (1, 22), (2, 45), (1, 22), (0, 0), (1, 21), (2, 45), (3, 65), (0, 0), (2, 44), (1, 21), (2, 44), (4, 95), (3, 71), (2, 45), (5, 110), (4, 88), (15, 578), (1, 20), (0, 0), (3, 64), (0, 0), (3, 85), (2, 63), (1, 40), (1, 22), (2, 43), (1, 40), (0, 0), (0, 0), (0, 0), (0, 0), (2, 61), (5, 131), (5, 133), (5, 132), (3, 67), (1, 20), (5, 131), (1, 40), (4, 110), (4, 110), (4, 110), (2, 43), (3, 88), (2, 63), (0, 0), (0, 0), (2, 63), (1, 20), (4, 110), (1, 40), (1, 40), (0, 0), (0, 0), (0, 0)] : List (Nat × Nat)).getD mi (0, 0)
def pm_R (mi : Nat) : Room := { frames := (pm_f mi).1, cells := (pg_mt mi).2.1, slots := (pg_mt mi).2.2, locals := (pm_f mi).2 }
def ct_1 : u_T := fun k => ([("UnitDesk", "draft", "LUnitDesk$Draft;", true), ("UnitDesk", "text", "LUnitDesk$Text;", true), ("UnitDesk", "code", "LUnitDesk$Code;", true), ("UnitDesk", "reading", "LUnitDesk$Reading;", true), ("UnitDesk", "machine", "LUnitDesk$Machine;", true), ("UnitDesk", "telling", "Ljava/lang/StringBuilder;", true)] : List (String × String × String × Bool)).getD k ("", "", "", false)
def cty_1 : Nat → FieldType := fun k => ([(.object "UnitDesk$Draft"), (.object "UnitDesk$Text"), (.object "UnitDesk$Code"), (.object "UnitDesk$Reading"), (.object "UnitDesk$Machine"), (.object "java/lang/StringBuilder")] : List FieldType).getD k .int
def ct_2 : u_T := fun k => ([("UnitDesk$Draft", "row", "[I", true), ("UnitDesk$Draft", "length", "I", false), ("UnitDesk$Draft", "starts", "[I", true), ("UnitDesk$Draft", "ends", "[I", true), ("UnitDesk$Draft", "wordCount", "I", false)] : List (String × String × String × Bool)).getD k ("", "", "", false)
def cty_2 : Nat → FieldType := fun k => ([(.array .int), .int, (.array .int), (.array .int), .int] : List FieldType).getD k .int
def ct_3 : u_T := fun k => ([("UnitDesk$Text", "items", "[LUnitDesk$Item;", true), ("UnitDesk$Text", "count", "I", false), ("UnitDesk$Text", "labels", "LUnitDesk$Labels;", true), ("UnitDesk$Text", "unitCount", "I", false), ("UnitDesk$Text", "longJumps", "I", false)] : List (String × String × String × Bool)).getD k ("", "", "", false)
def cty_3 : Nat → FieldType := fun k => ([(.array (.object "UnitDesk$Item")), .int, (.object "UnitDesk$Labels"), .int, .int] : List FieldType).getD k .int
def ct_4 : u_T := fun k => ([("UnitDesk$Item", "kind", "LUnitDesk$Kind;", false), ("UnitDesk$Item", "longer", "Z", false), ("UnitDesk$Item", "registers", "[I", true), ("UnitDesk$Item", "number", "I", false), ("UnitDesk$Item", "labelCount", "I", false), ("UnitDesk$Item", "names", "[I", true), ("UnitDesk$Item", "labels", "[I", true), ("UnitDesk$Item", "address", "I", false)] : List (String × String × String × Bool)).getD k ("", "", "", false)
def cty_4 : Nat → FieldType := fun k => ([(.object "UnitDesk$Kind"), .boolean, (.array .int), .int, .int, (.array .int), (.array .int), .int] : List FieldType).getD k .int
def ct_5 : u_T := fun k => ([("UnitDesk$Labels", "names", "[I", true), ("UnitDesk$Labels", "standsBefore", "[I", true), ("UnitDesk$Labels", "count", "I", false)] : List (String × String × String × Bool)).getD k ("", "", "", false)
def cty_5 : Nat → FieldType := fun k => ([(.array .int), (.array .int), .int] : List FieldType).getD k .int
def ct_6 : u_T := fun k => ([("UnitDesk$Code", "units", "[I", true), ("UnitDesk$Code", "count", "I", false), ("UnitDesk$Code", "beginnings", "[I", true)] : List (String × String × String × Bool)).getD k ("", "", "", false)
def cty_6 : Nat → FieldType := fun k => ([(.array .int), .int, (.array .int)] : List FieldType).getD k .int
def ct_7 : u_T := fun k => ([("UnitDesk$Reading", "kind", "LUnitDesk$Kind;", false), ("UnitDesk$Reading", "address", "I", false), ("UnitDesk$Reading", "unitCount", "I", false), ("UnitDesk$Reading", "registers", "[I", true), ("UnitDesk$Reading", "field", "I", false), ("UnitDesk$Reading", "caseCount", "I", false), ("UnitDesk$Reading", "cases", "[I", true)] : List (String × String × String × Bool)).getD k ("", "", "", false)
def cty_7 : Nat → FieldType := fun k => ([(.object "UnitDesk$Kind"), .int, .int, (.array .int), .int, .int, (.array .int)] : List FieldType).getD k .int
def ct_8 : u_T := fun k => ([("UnitDesk$Machine", "registers", "[I", true), ("UnitDesk$Machine", "place", "I", false), ("UnitDesk$Machine", "steps", "I", false), ("UnitDesk$Machine", "stopped", "I", false), ("UnitDesk$Machine", "outcome", "I", false), ("UnitDesk$Machine", "aim", "LUnitDesk$Reading;", true)] : List (String × String × String × Bool)).getD k ("", "", "", false)
def cty_8 : Nat → FieldType := fun k => ([(.array .int), .int, .int, .int, .int, (.object "UnitDesk$Reading")] : List FieldType).getD k .int
def ct_9 : u_T := fun k => ([("UnitDeskModel", "draft", "[I", true), ("UnitDeskModel", "wordFrom", "[I", true), ("UnitDeskModel", "wordEnd", "[I", true), ("UnitDeskModel", "drafted", "I", false), ("UnitDeskModel", "words", "I", false), ("UnitDeskModel", "op", "[I", true), ("UnitDeskModel", "one", "[I", true), ("UnitDeskModel", "two", "[I", true), ("UnitDeskModel", "three", "[I", true), ("UnitDeskModel", "number", "[I", true), ("UnitDeskModel", "labelMany", "[I", true), ("UnitDeskModel", "labelOf", "[I", true), ("UnitDeskModel", "items", "I", false), ("UnitDeskModel", "name", "[I", true), ("UnitDeskModel", "before", "[I", true), ("UnitDeskModel", "labels", "I", false), ("UnitDeskModel", "lineOp", "I", false), ("UnitDeskModel", "lineOne", "I", false), ("UnitDeskModel", "lineTwo", "I", false), ("UnitDeskModel", "lineThree", "I", false), ("UnitDeskModel", "lineNumber", "I", false), ("UnitDeskModel", "lineLabels", "I", false), ("UnitDeskModel", "lineLabel", "[I", true), ("UnitDeskModel", "isLong", "[Z", true), ("UnitDeskModel", "address", "[I", true), ("UnitDeskModel", "total", "I", false), ("UnitDeskModel", "unit", "[I", true), ("UnitDeskModel", "units", "I", false), ("UnitDeskModel", "readOp", "I", false), ("UnitDeskModel", "readUnits", "I", false), ("UnitDeskModel", "readA", "I", false), ("UnitDeskModel", "readB", "I", false), ("UnitDeskModel", "readC", "I", false), ("UnitDeskModel", "readNumber", "I", false), ("UnitDeskModel", "readD", "I", false), ("UnitDeskModel", "readMany", "I", false), ("UnitDeskModel", "begins", "[Z", true), ("UnitDeskModel", "beginsCases", "[Z", true), ("UnitDeskModel", "text", "[I", true), ("UnitDeskModel", "written", "I", false), ("UnitDeskModel", "register", "[I", true), ("UnitDeskModel", "place", "I", false), ("UnitDeskModel", "steps", "I", false), ("UnitDeskModel", "stopped", "I", false), ("UnitDeskModel", "outcome", "I", false)] : List (String × String × String × Bool)).getD k ("", "", "", false)
def cty_9 : Nat → FieldType := fun k => ([(.array .int), (.array .int), (.array .int), .int, .int, (.array .int), (.array .int), (.array .int), (.array .int), (.array .int), (.array .int), (.array .int), .int, (.array .int), (.array .int), .int, .int, .int, .int, .int, .int, .int, (.array .int), (.array .boolean), (.array .int), .int, (.array .int), .int, .int, .int, .int, .int, .int, .int, .int, .int, (.array .boolean), (.array .boolean), (.array .int), .int, (.array .int), .int, .int, .int, .int] : List FieldType).getD k .int
def ct_10 : u_T := fun k => ([("java/lang/AbstractStringBuilder", "value", "[B", false), ("java/lang/AbstractStringBuilder", "coder", "B", false), ("java/lang/AbstractStringBuilder", "maybeLatin1", "Z", false), ("java/lang/AbstractStringBuilder", "count", "I", false)] : List (String × String × String × Bool)).getD k ("", "", "", false)
def cty_10 : Nat → FieldType := fun k => ([(.array .byte), .byte, .boolean, .int] : List FieldType).getD k .int
def ct_11 : u_T := fun k => ([("java/lang/Enum", "ordinal", "I", true), ("UnitDesk$Kind", "op", "I", true), ("UnitDesk$Kind", "units", "I", true), ("UnitDesk$Kind", "word", "Ljava/lang/String;", true), ("UnitDesk$Kind", "arguments", "Ljava/lang/String;", true), ("UnitDesk$Kind", "fieldAt", "I", true), ("UnitDesk$Kind", "secondRegisterAt", "I", true), ("UnitDesk$Kind", "goes", "Z", true)] : List (String × String × String × Bool)).getD k ("", "", "", false)
def ct_12 : u_T := fun k => ([("java/lang/String", "value", "[B", true), ("java/lang/String", "coder", "B", true)] : List (String × String × String × Bool)).getD k ("", "", "", false)
def pm_c (b : Nat) : vw_C := ([("", ct_1, 0), ("UnitDesk", ct_1, 6), ("UnitDesk$Draft", ct_2, 5), ("UnitDesk$Text", ct_3, 5), ("UnitDesk$Item", ct_4, 8), ("UnitDesk$Labels", ct_5, 3), ("UnitDesk$Code", ct_6, 3), ("UnitDesk$Reading", ct_7, 7), ("UnitDesk$Machine", ct_8, 6), ("UnitDeskModel", ct_9, 45), ("java/lang/StringBuilder", ct_10, 4), ("UnitDesk$Kind", ct_11, 8), ("java/lang/String", ct_12, 2)] : List vw_C).getD b ("", ct_1, 0)
def pm_ty (b : Nat) : Nat → FieldType := ([cty_1, cty_1, cty_2, cty_3, cty_4, cty_5, cty_6, cty_7, cty_8, cty_9, cty_10] : List (Nat → FieldType)).getD b cty_1
def pm_cl : List vw_C := [("UnitDesk", ct_1, 6), ("UnitDesk$Draft", ct_2, 5), ("UnitDesk$Text", ct_3, 5), ("UnitDesk$Item", ct_4, 8), ("UnitDesk$Labels", ct_5, 3), ("UnitDesk$Code", ct_6, 3), ("UnitDesk$Reading", ct_7, 7), ("UnitDesk$Machine", ct_8, 6), ("UnitDeskModel", ct_9, 45), ("java/lang/StringBuilder", ct_10, 4)]
def pm_at (k : Nat) : FieldType := bif Nat.beq k 8 then .object "UnitDesk$Item" else bif Nat.beq k 51 then .object "UnitDesk$Kind" else ([.int, .int, .byte, .char, .boolean] : List FieldType).getD (pg_ak k) .int
def pm_s (a : Nat) : String × String × String := ([("UnitDesk$Kind", "NOP", "LUnitDesk$Kind;"), ("UnitDesk$Kind", "MOVE", "LUnitDesk$Kind;"), ("UnitDesk$Kind", "RET", "LUnitDesk$Kind;"), ("UnitDesk$Kind", "CONST", "LUnitDesk$Kind;"), ("UnitDesk$Kind", "CONST_LONG", "LUnitDesk$Kind;"), ("UnitDesk$Kind", "ADD", "LUnitDesk$Kind;"), ("UnitDesk$Kind", "SUB", "LUnitDesk$Kind;"), ("UnitDesk$Kind", "MUL", "LUnitDesk$Kind;"), ("UnitDesk$Kind", "ADDI", "LUnitDesk$Kind;"), ("UnitDesk$Kind", "JUMP", "LUnitDesk$Kind;"), ("UnitDesk$Kind", "JUMP_LONG", "LUnitDesk$Kind;"), ("UnitDesk$Kind", "JEQ", "LUnitDesk$Kind;"), ("UnitDesk$Kind", "JLT", "LUnitDesk$Kind;"), ("UnitDesk$Kind", "JZ", "LUnitDesk$Kind;"), ("UnitDesk$Kind", "TABLE", "LUnitDesk$Kind;"), ("UnitDesk$Kind", "CASES", "LUnitDesk$Kind;"), ("UnitDesk", "KINDS", "[LUnitDesk$Kind;"), ("UnitDesk$1", "$SwitchMap$UnitDesk$Kind", "[I"), ("java/lang/String", "COMPACT_STRINGS", "Z"), ("java/lang/Integer", "DigitOnes", "[B"), ("java/lang/Integer", "DigitTens", "[B"), ("jdk/internal/util/Preconditions", "SIOOBE_FORMATTER", "Ljava/util/function/BiFunction;")] : List (String × String × String)).getD a ("", "", "")
abbrev pm_ns : Nat := 22
def eg_xs : List MethodName := [⟨"java/lang/AbstractStringBuilder", "ensureCapacityInternal", "(I)V"⟩, ⟨"java/lang/AbstractStringBuilder", "newCapacity", "(I)I"⟩, ⟨"java/lang/AbstractStringBuilder", "putStringAt", "(ILjava/lang/String;)V"⟩, ⟨"java/lang/AbstractStringBuilder", "inflateIfNeededFor", "(Ljava/lang/String;)V"⟩]
def eg_tbl : List Jvm.Cond := eg_xs.map (fun y => Jvm.Cond.selects "java/lang/StringBuilder" y y) ++ lw_tbl
end
section
/-! WHAT THE ENGINE'S VALUES MEAN on the machine -/
abbrev eg_A : Type := (Nat → Nat → Nat) × (Nat → Value)
def eg_cv (ad : eg_A) : eg_V → Value
  | .inl x => .int x
  | .inr q => bif Nat.beq q.1 0 then .null else bif Nat.beq q.1 1 then ad.2 q.2 else .ref (ad.1 q.1 q.2)
def eg_zk (ad : eg_A) : Prop := ∀ i, ad.2 i = .null ∨ ∃ t, ad.2 i = .ref t
theorem eg_cv_r {ad : eg_A} (hz : eg_zk ad) (q : Nat × Nat) : eg_cv ad (.inr q) = .null ∨ ∃ t, eg_cv ad (.inr q) = .ref t := by
  show (bif Nat.beq q.1 0 then Value.null else bif Nat.beq q.1 1 then ad.2 q.2 else Value.ref (ad.1 q.1 q.2)) = .null ∨ ∃ t, (bif Nat.beq q.1 0 then Value.null else bif Nat.beq q.1 1 then ad.2 q.2 else Value.ref (ad.1 q.1 q.2)) = .ref t
  cases Nat.beq q.1 0 with
  | true => exact Or.inl rfl
  | false =>
    cases Nat.beq q.1 1 with
    | true => exact hz q.2
    | false => exact Or.inr ⟨_, rfl⟩
theorem eg_cat {ad : eg_A} (hz : eg_zk ad) (v : eg_V) : (eg_cv ad v).category = 1 := by
  cases v with
  | inl x => rfl
  | inr q => rcases eg_cv_r hz q with h | ⟨t, h⟩ <;> rw [h] <;> rfl
theorem eg_cats {ad : eg_A} (hz : eg_zk ad) : ∀ st : List eg_V, ((st.map (eg_cv ad)).map fun v => v.category).sum = st.length
  | [] => rfl
  | v :: l => by
    simp only [List.map_cons, List.sum_cons, List.length_cons, eg_cat hz, eg_cats hz l]
    omega
def eg_hl (ad : eg_A) (ls : eg_L) : List (Nat × Value) := ls.map (fun q => (q.1, eg_cv ad q.2))
theorem eg_get_mem : ∀ {l : eg_L} {i : Nat} {v : eg_V}, eg_get l i = some v → (i, v) ∈ l
  | [], _, _, h => by simp [eg_get] at h
  | (j, w) :: l, i, v, h => by
    unfold eg_get at h
    cases hb : Nat.beq j i with
    | true =>
      simp only [hb, cond_true, Option.some.injEq] at h
      have := Nat.eq_of_beq_eq_true hb
      subst this; subst h
      exact List.mem_cons_self
    | false =>
      simp only [hb, cond_false] at h
      exact List.mem_cons_of_mem _ (eg_get_mem h)
theorem eg_at_l {ad : eg_A} {LS : Array Slot} {nL i : Nat} {ls : eg_L} {v : eg_V} (h : lv_has LS nL (eg_hl ad ls)) (hg : eg_get ls i = some v) : LS[i]? = some (.val (eg_cv ad v)) :=
  h.2.2 (i, eg_cv ad v) (List.mem_map.mpr ⟨(i, v), eg_get_mem hg, rfl⟩)
theorem eg_put_l {ad : eg_A} (hz : eg_zk ad) {LS : Array Slot} {nL i : Nat} {ls : eg_L} {v : eg_V} (h : lv_has LS nL ((i, eg_cv ad v) :: (eg_hl ad ls).filter (fun q => !(q.1 == i) && !(q.1 + 1 == i && q.2.category == 2)))) : lv_has LS nL (eg_hl ad (eg_put ls i v)) := by
  refine ⟨h.1, h.2.1, fun q hq => h.2.2 q ?_⟩
  obtain ⟨r, hr, rfl⟩ := List.mem_map.mp hq
  rcases List.mem_cons.mp hr with rfl | hr
  · exact List.mem_cons_self
  · obtain ⟨h1, h2⟩ := List.mem_filter.mp hr
    refine List.mem_cons_of_mem _ (List.mem_filter.mpr ⟨List.mem_map.mpr ⟨r, h1, rfl⟩, ?_⟩)
    have hne : ¬ r.1 = i := by
      intro e
      rw [e, Nat.beq_refl] at h2
      cases h2
    simp [eg_cat hz, hne]
theorem eg_ent_l (ad : eg_A) (hz : eg_zk ad) : ∀ (vs : List eg_V) (n : Nat), lv_args n (vs.map (eg_cv ad)) = eg_hl ad (eg_ent n vs)
  | [], n => rfl
  | v :: vs, n => by
    show lv_args n (eg_cv ad v :: vs.map (eg_cv ad)) = (n, eg_cv ad v) :: eg_hl ad (eg_ent (n + 1) vs)
    rw [← eg_ent_l ad hz vs (n + 1)]
    simp [lv_args, eg_cat hz]
/-! words that stand in every state of a run -/
def eg_gw : Jvm.Cond → Bool
  | .fieldLinkNest .. => true
  | .methodLinkNest .. => true
  | w => goodWord w
theorem eg_gw_at {w : Jvm.Cond} (hw : eg_gw w = true) {s U : State} (hW : s.WarmedH U.vm) (h : va_Nw w s) : va_Nw w U := by
  cases w
  case fieldLinkNest a i b n d h2 => exact va_Nw.warmF hW h
  case methodLinkNest a i x h2 => exact va_Nw.warmM hW h
  all_goals exact word_at hW (good_of_word hw) h
def eg_Wd (s : State) : Prop := ∀ w ∈ eg_tbl, eg_gw w = true → va_Nw w s
theorem eg_Wd.moved {s U : State} (hW : s.WarmedH U.vm) (h : eg_Wd s) : eg_Wd U := fun w hw hg => eg_gw_at hg hW (h w hw hg)
theorem eg_Wd.use {s : State} (h : eg_Wd s) {w : Jvm.Cond} (hm : w ∈ eg_tbl) (hg : eg_gw w = true) {args : Array Value} : w.before args s = true := by
  cases w
  case fieldLinkNest a i b n d h2 => exact va_Nw.use rfl (h _ hm hg)
  case methodLinkNest a i x h2 => exact va_Nw.use rfl (h _ hm hg)
  all_goals exact word_at (State.WarmedH.refl s) (good_of_word hg) (h _ hm hg)
/-! memory -/
def eg_arr (U : State) (ty : FieldType) (a n : Nat) (f : Nat → Value) (H : Heap) : Prop := ∃ cell : Cell, H[a]? = some cell ∧ U.isArrayOf cell ty ∧ cell.vm ≠ .unknown ∧ n ≤ cell.slots.size ∧ cell.slots.size.toInt32 = Int32.ofNat n ∧ ∀ j, j < n → cell.slots[j]? = some (f j)
def eg_fld (U : State) (b j a : Nat) (v : Value) (H : Heap) : Prop := ∃ (cf : ClassId) (kf : Class) (fi : Nat) (f : Field) (cell : Cell), U.fieldFound? ((pm_c b).2.1 j).1 ((pm_c b).2.1 j).2.1 ((pm_c b).2.1 j).2.2.1 = some (cf, kf, fi, f) ∧ f.isStatic = false ∧ H[a]? = some cell ∧ cell.vm ≠ .unknown ∧ cell.slots[f.slot]? = some v
def eg_nv (t : Nat) (v : eg_V) : eg_V := bif Nat.beq t 5 then .inr (eg_ref v) else .inl (eg_int v)
section EGM
variable {S : Type} (X : eg_X S) (lv : S → Nat → Nat → Prop) (D : va_G) (A : Nat → Prop)
def eg_mem (U : State) (ad : eg_A) (σ : S) (k i : Nat) (H : Heap) : Prop :=
  if pg_ak k = 0 then
    (if k < 50 then va_at D pm_cl (ad.1 k i, .inr (pg_kc k - 1, (List.range (pg_nf (pg_kc k))).map (fun j => eg_cv ad (X.1 σ k i j)))) H
    else (∃ cell : Cell, H[ad.1 k i]? = some cell ∧ cell.vm.isStatics = false ∧ U.vm.findClass (pm_c (pg_kc k)).1 = some cell.cls) ∧ ∀ j, j < pg_nf (pg_kc k) → eg_fld U (pg_kc k) j (ad.1 k i) (eg_cv ad (X.1 σ k i j)) H)
  else eg_arr U (pm_at k) (ad.1 k i) (X.2.1 σ k i) (fun j => eg_cv ad (eg_nv (pg_ak k) (X.1 σ k i j))) H ∧ (k = 8 → ∃ cell : Cell, H[ad.1 k i]? = some cell ∧ va_RA U cell.cls (.object "UnitDesk$Item"))
def eg_lvV (σ : S) : eg_V → Prop
  | .inl _ => True
  | .inr q => q.1 = 0 ∨ q.1 = 1 ∨ lv σ q.1 q.2
/-- how many places a cell has -/
def eg_wid (σ : S) (k i : Nat) : Nat := if pg_ak k = 0 then pg_nf (pg_kc k) else X.2.1 σ k i
def eg_Inv (s : State) (ad : eg_A) (σ : S) (H : Heap) (locs : List Loc) : Prop :=
  (∀ k i, lv σ k i → 2 ≤ k ∧ eg_mem X D s ad σ k i H) ∧ (∀ k i, lv σ k i → (A (ad.1 k i) ↔ k < 50)) ∧
  (∀ k i k2 i2, lv σ k i → lv σ k2 i2 → (k < 50 ∨ (k = 50 ∧ k2 = 50)) → ad.1 k i = ad.1 k2 i2 → k = k2 ∧ i = i2) ∧ va_S A s.heap H locs ∧
  (∀ k i j, lv σ k i → j < eg_wid X σ k i → eg_lvV lv σ (X.1 σ k i j))
def eg_Sta (s : State) (ad : eg_A) : Prop := va_K D pm_cl [] s ∧ eg_Wd s ∧ (∀ a, a < pm_ns → va_Z (pm_s a).1 (pm_s a).2.1 (pm_s a).2.2 (eg_cv ad (pg_sg a)) A s s.heap) ∧ (∀ q, s.heap.size ≤ q → A q) ∧ eg_zk ad ∧ vk_R "UnitDesk$Reading" 125 " v" (ad.1 53 0) s ∧ va_AO "UnitDesk$Item" s
def eg_LV (σ : S) (ls : eg_L) (st : List eg_V) : Prop := (∀ q ∈ ls, eg_lvV lv σ q.2) ∧ ∀ v ∈ st, eg_lvV lv σ v
end EGM
def eg_Cx (mi : Nat) (p : Program) (s : State) (m : MethodId) (meth : Method) (c : Code) : Prop := p.tables.exec = Jvm.exec ∧ c.code = pm_b mi ∧ meth.sig.returnType = pm_r mi ∧ c.maxLocals = pm_l mi ∧ s.vm.findClass (pm_y mi).cls = some m.cls ∧ meth.locks = false ∧ meth.name = (pm_y mi).name
end
section
/-! STEPS that leave the store alone, and look at nothing in it -/
section EGP
variable {p : Program} {l : Launch} {e : Env} {R : Room} {s : State} {m : MethodId} {args : Array Value} {below : List Frame} {meth : Method} {c : Code} {H : Heap} {locs : List Loc} {cells slots : Nat} {Q : State → Prop} {cc : ByteArray} {pc : Nat} {LS : Array Slot} {ad : eg_A}
theorem eg_stk_spec {S : Type} {o : Option (List eg_V)} {pc pc2 : Nat} {σ σ2 : S} {u u2 : Nat × Nat} {ls ls2 : eg_L} {st2 : List eg_V} {g : Bool} (h : eg_stk o pc σ u ls = some (g, .inl (pc2, σ2, u2, ls2, st2))) : o = some st2 ∧ pc2 = pc ∧ σ2 = σ ∧ u2 = u ∧ ls2 = ls ∧ g = true := by
  cases o with
  | none => cases h
  | some w => cases h; exact ⟨rfl, rfl, rfl, rfl, rfl, rfl⟩
theorem eg_psh_spec {S : Type} {o : Option eg_V} {pc pc2 : Nat} {σ σ2 : S} {u u2 : Nat × Nat} {ls ls2 : eg_L} {st st2 : List eg_V} {g : Bool} (h : eg_psh o pc σ u ls st = some (g, .inl (pc2, σ2, u2, ls2, st2))) : ∃ v, o = some v ∧ st2 = v :: st ∧ pc2 = pc ∧ σ2 = σ ∧ u2 = u ∧ ls2 = ls ∧ g = true := by
  cases o with
  | none => cases h
  | some w => cases h; exact ⟨w, rfl, rfl, rfl, rfl, rfl, rfl, rfl⟩
theorem eg_bin_spec {f : Int32 → Int32 → Int32} {st st2 : List eg_V} (h : eg_bin f st = some st2) : ∃ x y r, st = .inl y :: .inl x :: r ∧ st2 = .inl (f x y) :: r := by
  unfold eg_bin at h
  split at h
  · cases h; exact ⟨_, _, _, rfl, rfl⟩
  · cases h
theorem eg_un_spec {f : Int32 → Int32} {st st2 : List eg_V} (h : eg_un f st = some st2) : ∃ x r, st = .inl x :: r ∧ st2 = .inl (f x) :: r := by
  unfold eg_un at h
  split at h
  · cases h; exact ⟨_, _, rfl, rfl⟩
  · cases h
theorem eg_geti_spec {l : eg_L} {i : Nat} {v : eg_V} (h : eg_geti l i = some v) : ∃ x, v = .inl x ∧ eg_get l i = some (.inl x) := by
  unfold eg_geti at h
  split at h
  · cases h; exact ⟨_, rfl, by assumption⟩
  · cases h
theorem eg_getr_spec {l : eg_L} {i : Nat} {v : eg_V} (h : eg_getr l i = some v) : ∃ q, v = .inr q ∧ eg_get l i = some (.inr q) := by
  unfold eg_getr at h
  split at h
  · cases h; exact ⟨_, rfl, by assumption⟩
  · cases h
theorem eg_put_live {P : eg_V → Prop} {ls : eg_L} {i : Nat} {v : eg_V} (h : ∀ q ∈ ls, P q.2) (hv : P v) : ∀ q ∈ eg_put ls i v, P q.2 := by
  intro q hq
  rcases List.mem_cons.mp hq with rfl | hq
  · exact hv
  · exact h q (List.mem_filter.mp hq).1
/-- storing any value -/
theorem eg_store_n (hx : p.tables.exec = Jvm.exec) (hb : c.code = cc) (hz : eg_zk ad) {k : Fin 4} {nL : Nat} {ls : eg_L} {v : Nat × Nat} {rest : List Value} (hdg : decode cc pc = .ok (.astore_n k, 1)) (hl : lv_has LS nL (eg_hl ad ls)) (hn : (k : Nat) < nL)
    (kk : ∀ LS2 : Array Slot, lv_has LS2 nL (eg_hl ad (eg_put ls k (.inr v))) → W p l e R s m args below meth c H locs cells slots Q (F0 m (pc + 1) LS2 rest)) : W p l e R s m args below meth c H locs cells slots Q (F0 m pc LS (eg_cv ad (.inr v) :: rest)) := by
  rcases eg_cv_r hz v with h | ⟨t, h⟩
  · rw [h]
    exact lv_astore_nN hx hb hdg rfl hl hn rfl (fun LS2 h2 => kk LS2 (eg_put_l hz (by rw [h]; exact h2)))
  · rw [h]
    exact lv_astore_n hx hb hdg rfl hl hn rfl (fun LS2 h2 => kk LS2 (eg_put_l hz (by rw [h]; exact h2)))
theorem eg_store (hx : p.tables.exec = Jvm.exec) (hb : c.code = cc) (hz : eg_zk ad) {k nL : Nat} {ls : eg_L} {v : Nat × Nat} {rest : List Value} (hdg : decode cc pc = .ok (.astore k, 2)) (hl : lv_has LS nL (eg_hl ad ls)) (hn : k < nL)
    (kk : ∀ LS2 : Array Slot, lv_has LS2 nL (eg_hl ad (eg_put ls k (.inr v))) → W p l e R s m args below meth c H locs cells slots Q (F0 m (pc + 2) LS2 rest)) : W p l e R s m args below meth c H locs cells slots Q (F0 m pc LS (eg_cv ad (.inr v) :: rest)) := by
  rcases eg_cv_r hz v with h | ⟨t, h⟩
  · rw [h]
    exact lv_astoreN hx hb hdg hl hn rfl (fun LS2 h2 => kk LS2 (eg_put_l hz (by rw [h]; exact h2)))
  · rw [h]
    exact lv_astore hx hb hdg hl hn rfl (fun LS2 h2 => kk LS2 (eg_put_l hz (by rw [h]; exact h2)))
theorem eg_load_n (hx : p.tables.exec = Jvm.exec) (hb : c.code = cc) (hz : eg_zk ad) {k : Fin 4} {v : Nat × Nat} {rest : List Value} (hdg : decode cc pc = .ok (.aload_n k, 1)) (hl : LS[(k : Nat)]? = some (.val (eg_cv ad (.inr v))))
    (kk : W p l e R s m args below meth c H locs cells slots Q (F0 m (pc + 1) LS (eg_cv ad (.inr v) :: rest))) : W p l e R s m args below meth c H locs cells slots Q (F0 m pc LS rest) := by
  rcases eg_cv_r hz v with h | ⟨t, h⟩
  · rw [h] at hl kk
    exact lv_aload_nN hx hb hdg rfl hl kk
  · rw [h] at hl kk
    exact lv_aload_n hx hb hdg rfl hl kk
theorem eg_load (hx : p.tables.exec = Jvm.exec) (hb : c.code = cc) (hz : eg_zk ad) {k : Nat} {v : Nat × Nat} {rest : List Value} (hdg : decode cc pc = .ok (.aload k, 2)) (hl : LS[k]? = some (.val (eg_cv ad (.inr v))))
    (kk : W p l e R s m args below meth c H locs cells slots Q (F0 m (pc + 2) LS (eg_cv ad (.inr v) :: rest))) : W p l e R s m args below meth c H locs cells slots Q (F0 m pc LS rest) := by
  rcases eg_cv_r hz v with h | ⟨t, h⟩
  · rw [h] at hl kk
    exact lv_aloadN hx hb hdg hl kk
  · rw [h] at hl kk
    exact lv_aload hx hb hdg hl kk
end EGP
end
section
/-! ONE STEP -/
abbrev eg_own (mi : Nat) : String := (pm_y mi).cls
def eg_fs (mi idx b a : Nat) : Prop := a < pg_nf b ∧ (Jvm.Cond.fieldLink (eg_own mi) idx ((pm_c b).2.1 a).1 ((pm_c b).2.1 a).2.1 ((pm_c b).2.1 a).2.2.1 ∈ eg_tbl ∨ ∃ host, Jvm.Cond.fieldLinkNest (eg_own mi) idx ((pm_c b).2.1 a).1 ((pm_c b).2.1 a).2.1 ((pm_c b).2.1 a).2.2.1 host ∈ eg_tbl)
def eg_ss (mi idx a : Nat) : Prop := a < pm_ns ∧ (Jvm.Cond.fieldLink (eg_own mi) idx (pm_s a).1 (pm_s a).2.1 (pm_s a).2.2 ∈ eg_tbl ∨ ∃ host, Jvm.Cond.fieldLinkNest (eg_own mi) idx (pm_s a).1 (pm_s a).2.1 (pm_s a).2.2 host ∈ eg_tbl)
/-- what every call of method j by method mi asks -/
def eg_cj (mi j n : Nat) : Prop := Jvm.Cond.code (pm_y j) (pm_b j) (pm_l j) (pm_r j) ∈ eg_tbl ∧ Jvm.Cond.initialized (pm_y j).cls ∈ eg_tbl ∧ ((pm_y j).cls ≠ "java/lang/invoke/MethodHandle" ∧ (pm_y j).cls ≠ "java/lang/invoke/VarHandle") ∧ (parseMethodDescriptor (pm_y j).desc).map (fun d => d.parameters.length) = some n ∧ (pm_f j).1 + 1 ≤ (pm_f mi).1 ∧ 8 + (pm_l j + 11) + (pm_f j).2 ≤ (pm_f mi).2 ∧ plainName (pm_y j).cls = true ∧ (pg_mt j).1 ≤ pm_l j
def eg_cV (mi idx j b : Nat) : Prop := Jvm.Cond.instanceMethod (pm_y j) ∈ eg_tbl ∧ b ≠ 0 ∧ (pg_mt j).1 = (pg_mt j).1 - 1 + 1 ∧ eg_cj mi j ((pg_mt j).1 - 1) ∧ ((Jvm.Cond.methodLink (eg_own mi) idx (pm_y j) ∈ eg_tbl ∧ Jvm.Cond.selects (pm_c b).1 (pm_y j) (pm_y j) ∈ eg_tbl) ∨ ∃ x, x.name = (pm_y j).name ∧ x.desc = (pm_y j).desc ∧ Jvm.Cond.methodLink (eg_own mi) idx x ∈ eg_tbl ∧ Jvm.Cond.sameMethod x.cls (pm_y j).cls x.name x.desc ∈ eg_tbl ∧ Jvm.Cond.selects (pm_c b).1 x (pm_y j) ∈ eg_tbl)
def eg_cS (mi idx j : Nat) : Prop := Jvm.Cond.methodLink (eg_own mi) idx (pm_y j) ∈ eg_tbl ∧ Jvm.Cond.static (pm_y j) ∈ eg_tbl ∧ eg_cj mi j (pg_mt j).1
def eg_cI (mi idx j b : Nat) : Prop := Jvm.Cond.instanceMethod (pm_y j) ∈ eg_tbl ∧ b ≠ 0 ∧ (pg_mt j).1 = (pg_mt j).1 - 1 + 1 ∧ eg_cj mi j ((pg_mt j).1 - 1) ∧ (((pm_y j).name = "<init>" ∧ pm_r j = none ∧ (Jvm.Cond.methodLink (eg_own mi) idx (pm_y j) ∈ eg_tbl ∨ ∃ host, Jvm.Cond.methodLinkNest (eg_own mi) idx (pm_y j) host ∈ eg_tbl)) ∨ ((pm_y j).name ≠ "<init>" ∧ b ≤ 10 ∧ Jvm.Cond.methodLink (eg_own mi) idx (pm_y j) ∈ eg_tbl ∧ Jvm.Cond.sameMethod (pm_y j).cls (pm_y j).cls (pm_y j).name (pm_y j).desc ∈ eg_tbl ∧ Jvm.Cond.superclass (eg_own mi) (pm_y j).cls ∈ eg_tbl))
def eg_site (mi pc : Nat) (I : Jvm.ClassFile.Instr) (a b : Nat) : Prop := match I with
  | .ifCond _ off => (pc : Int) + off = (a : Int)
  | .if_icmp _ off => (pc : Int) + off = (a : Int)
  | .if_acmp _ off => (pc : Int) + off = (a : Int)
  | .goto off => (pc : Int) + off = (a : Int)
  | .ifnull off => (pc : Int) + off = (a : Int)
  | .ifnonnull off => (pc : Int) + off = (a : Int)
  | .istore_n k => (k : Nat) < pm_l mi
  | .astore_n k => (k : Nat) < pm_l mi
  | .istore k => k < pm_l mi
  | .astore k => k < pm_l mi
  | .iinc k _ => k < pm_l mi
  | .tableswitch d lo hi offs => 0 ≤ (pc : Int) + d ∧ (hi - lo).toNat < offs.size ∧ (offs.toList.all (fun o => decide (0 ≤ (pc : Int) + o))) = true
  | .lookupswitch d ps => (ps.toList.zip (ps.toList.drop 1)).all (fun (a, next) => a.1 < next.1) = true ∧ 0 ≤ (pc : Int) + d ∧ (ps.toList.all (fun q => decide (0 ≤ (pc : Int) + q.2))) = true
  | .ldc idx => (b = 0 ∧ Jvm.Cond.constant (eg_own mi) idx (Int32.ofNat a) ∈ eg_tbl) ∨ (b = 53 ∧ a = 0 ∧ eg_own mi = "UnitDesk$Reading" ∧ idx = 125)
  | .getfield idx => eg_fs mi idx b a
  | .putfield idx => eg_fs mi idx b a ∧ 1 ≤ b ∧ b ≤ 10 ∧ (((pm_c b).2.1 a).2.2.2 = true → (pm_y mi).name = "<init>" ∧ ((pm_c b).2.1 a).1 = eg_own mi ∧ Jvm.Cond.fieldLink (eg_own mi) idx ((pm_c b).2.1 a).1 ((pm_c b).2.1 a).2.1 ((pm_c b).2.1 a).2.2.1 ∈ eg_tbl)
  | .getstatic idx => eg_ss mi idx a
  | .baload => a = 2 ∨ a = 4
  | .bastore => a = 2 ∨ a = 4
  | .aastore => a = 4 ∧ b = 8
  | .new idx => 1 ≤ pg_kc a ∧ pg_kc a ≤ 10 ∧ Jvm.Cond.classLink (eg_own mi) idx (pm_c (pg_kc a)).1 ∈ eg_tbl ∧ Jvm.Cond.instantiable (pm_c (pg_kc a)).1 (pm_c (pg_kc a)).2.2 ∈ eg_tbl ∧ Jvm.Cond.initialized (pm_c (pg_kc a)).1 ∈ eg_tbl
  | .newarray at_ => ((pg_ak a = 1 ∧ at_ = .int) ∨ (pg_ak a = 2 ∧ at_ = .byte) ∨ (pg_ak a = 4 ∧ at_ = .boolean)) ∧ a ≠ 8 ∧ Jvm.Cond.arrayClass (newarray.typeOf at_) ∈ eg_tbl
  | .anewarray idx => a = 8 ∧ Jvm.Cond.classLink (eg_own mi) idx "UnitDesk$Item" ∈ eg_tbl
  | .invokestatic idx => (b = 99 ∧ Jvm.Cond.methodLink (eg_own mi) idx arraycopyName ∈ eg_tbl ∧ Jvm.Cond.native arraycopyName ∈ eg_tbl ∧ Jvm.Cond.static arraycopyName ∈ eg_tbl ∧ Jvm.Cond.initialized "java/lang/System" ∈ eg_tbl ∧ 1 ≤ (pm_f mi).1 ∧ 8 + (nativeFrameWords "java/lang/System" "arraycopy" 5 + 11) ≤ (pm_f mi).2) ∨ (b = 98 ∧ Jvm.Cond.methodLink (eg_own mi) idx Lib.Math.max.name ∈ eg_tbl ∧ Jvm.Cond.static Lib.Math.max.name ∈ eg_tbl ∧ Jvm.Cond.initialized "java/lang/Math" ∈ eg_tbl ∧ Jvm.Cond.code Lib.Math.max.name Lib.Math.max.code 2 (some .int) ∈ eg_tbl ∧ 1 ≤ (pm_f mi).1 ∧ 21 ≤ (pm_f mi).2) ∨ (b = 97 ∧ Jvm.Cond.methodLink (eg_own mi) idx Lib.Math.min.name ∈ eg_tbl ∧ Jvm.Cond.static Lib.Math.min.name ∈ eg_tbl ∧ Jvm.Cond.initialized "java/lang/Math" ∈ eg_tbl ∧ Jvm.Cond.code Lib.Math.min.name Lib.Math.min.code 2 (some .int) ∈ eg_tbl ∧ 1 ≤ (pm_f mi).1 ∧ 21 ≤ (pm_f mi).2) ∨ ((b ≠ 99 ∧ b ≠ 98 ∧ b ≠ 97) ∧ eg_cS mi idx a)
  | .invokespecial idx => (b = 99 ∧ Jvm.Cond.methodLink (eg_own mi) idx Lib.objectInit ∈ eg_tbl ∧ Jvm.Cond.instanceMethod Lib.objectInit ∈ eg_tbl ∧ Jvm.Cond.code Lib.objectInit ⟨#[0xb1]⟩ 1 none ∈ eg_tbl ∧ 1 ≤ (pm_f mi).1 ∧ 20 ≤ (pm_f mi).2) ∨ (b ≠ 99 ∧ eg_cI mi idx a b)
  | .invokevirtual idx => eg_cV mi idx a b
  | .ireturn => (a = 1 ∧ pm_r mi = some .int) ∨ (a = 2 ∧ pm_r mi = some .boolean) ∨ (a = 3 ∧ pm_r mi = some .char) ∨ (a = 4 ∧ pm_r mi = some .byte)
  | .areturn => ∃ rt, pm_r mi = some rt ∧ ((∃ n, rt = .object n) ∨ ∃ t, rt = .array t)
  | .return_ => pm_r mi = none
  | _ => True
section EGN
variable {S : Type} (X : eg_X S) (lv : S → Nat → Nat → Prop) (D : va_G) (A : Nat → Prop)
def eg_Nx (p : Program) (l : Launch) (e : Env) (R : Room) (s : State) (m : MethodId) (args : Array Value) (below : List Frame) (meth : Method) (c : Code) (Q : State → Prop) (mi pc : Nat) (σ : S) (u : Nat × Nat) (ls : eg_L) (st : List eg_V) (pc2 : Nat) (σ2 : S) (u2 : Nat × Nat) (ls2 : eg_L) (st2 : List eg_V) : Prop :=
  ∀ (ad : eg_A) (H : Heap) (locs : List Loc) (LS : Array Slot), eg_Sta D A s ad → eg_Inv X lv D A s ad σ H locs → lv_has LS (pm_l mi) (eg_hl ad ls) → eg_LV lv σ ls st →
    (∀ (ad2 : eg_A) (H2 : Heap) (locs2 : List Loc) (LS2 : Array Slot), (∀ k i, lv σ k i → ad2.1 k i = ad.1 k i) → ad2.2 = ad.2 → eg_Sta D A s ad2 → eg_Inv X lv D A s ad2 σ2 H2 locs2 → lv_has LS2 (pm_l mi) (eg_hl ad2 ls2) → eg_LV lv σ2 ls2 st2 → W p l e R s m args below meth c H2 locs2 u2.1 u2.2 Q (F0 m pc2 LS2 (st2.map (eg_cv ad2)))) →
    W p l e R s m args below meth c H locs u.1 u.2 Q (F0 m pc LS (st.map (eg_cv ad)))
variable {X lv D A}
variable {p : Program} {l : Launch} {e : Env} {R : Room} {s : State} {m : MethodId} {args : Array Value} {below : List Frame} {meth : Method} {c : Code} {Q : State → Prop} {mi pc pc2 : Nat} {σ σ2 : S} {u u2 : Nat × Nat} {ls ls2 : eg_L} {st st2 : List eg_V}
theorem eg_LV.drop {v : eg_V} (h : eg_LV lv σ ls (v :: st)) : eg_LV lv σ ls st := ⟨h.1, fun w hw => h.2 w (List.mem_cons_of_mem _ hw)⟩
theorem eg_LV.top {v : eg_V} (h : eg_LV lv σ ls (v :: st)) : eg_lvV lv σ v := h.2 v List.mem_cons_self
theorem eg_LV.push {v : eg_V} (h : eg_LV lv σ ls st) (hv : eg_lvV lv σ v) : eg_LV lv σ ls (v :: st) := ⟨h.1, fun w hw => (List.mem_cons.mp hw).elim (fun e => by rw [e]; exact hv) (h.2 w)⟩
theorem eg_LV.put {v : eg_V} {i : Nat} (h : eg_LV lv σ ls st) (hv : eg_lvV lv σ v) : eg_LV lv σ (eg_put ls i v) st := ⟨eg_put_live h.1 hv, h.2⟩
theorem eg_LV.get {v : eg_V} {i : Nat} (h : eg_LV lv σ ls st) (hg : eg_get ls i = some v) : eg_lvV lv σ v := h.1 (i, v) (eg_get_mem hg)
/-- store, memory and frame's numbers stay -/
theorem eg_Nx.same (h : ∀ (ad : eg_A) (H : Heap) (locs : List Loc) (LS : Array Slot), eg_Sta D A s ad → eg_Inv X lv D A s ad σ H locs → lv_has LS (pm_l mi) (eg_hl ad ls) → eg_LV lv σ ls st →
    (∀ (LS2 : Array Slot), lv_has LS2 (pm_l mi) (eg_hl ad ls2) → eg_LV lv σ ls2 st2 → W p l e R s m args below meth c H locs u.1 u.2 Q (F0 m pc2 LS2 (st2.map (eg_cv ad)))) →
    W p l e R s m args below meth c H locs u.1 u.2 Q (F0 m pc LS (st.map (eg_cv ad)))) : eg_Nx X lv D A p l e R s m args below meth c Q mi pc σ u ls st pc2 σ u ls2 st2 :=
  fun ad H locs LS hS hI hl hv K => h ad H locs LS hS hI hl hv (fun LS2 hl2 hv2 => K ad H locs LS2 (fun _ _ _ => rfl) rfl hS hI hl2 hv2)
theorem eg_nx_bin {f : Int32 → Int32 → Int32} {g : Bool} (h : eg_stk (eg_bin f st) (pc + 1) σ u ls = some (g, .inl (pc2, σ2, u2, ls2, st2)))
    (row : ∀ (H : Heap) (locs : List Loc) (LS : Array Slot) (x y : Int32) (rest : List Value), W p l e R s m args below meth c H locs u.1 u.2 Q (F0 m (pc + 1) LS (.int (f x y) :: rest)) → W p l e R s m args below meth c H locs u.1 u.2 Q (F0 m pc LS (.int y :: .int x :: rest))) : eg_Nx X lv D A p l e R s m args below meth c Q mi pc σ u ls st pc2 σ2 u2 ls2 st2 := by
  obtain ⟨h1, rfl, rfl, rfl, rfl, -⟩ := eg_stk_spec h
  obtain ⟨x, y, r, rfl, rfl⟩ := eg_bin_spec h1
  exact eg_Nx.same (fun ad H locs LS hS hI hl hv K => row H locs LS x y _ (K LS hl (hv.drop.drop.push trivial)))
theorem eg_nx_un {f : Int32 → Int32} {g : Bool} (h : eg_stk (eg_un f st) (pc + 1) σ u ls = some (g, .inl (pc2, σ2, u2, ls2, st2)))
    (row : ∀ (H : Heap) (locs : List Loc) (LS : Array Slot) (x : Int32) (rest : List Value), W p l e R s m args below meth c H locs u.1 u.2 Q (F0 m (pc + 1) LS (.int (f x) :: rest)) → W p l e R s m args below meth c H locs u.1 u.2 Q (F0 m pc LS (.int x :: rest))) : eg_Nx X lv D A p l e R s m args below meth c Q mi pc σ u ls st pc2 σ2 u2 ls2 st2 := by
  obtain ⟨h1, rfl, rfl, rfl, rfl, -⟩ := eg_stk_spec h
  obtain ⟨x, r, rfl, rfl⟩ := eg_un_spec h1
  exact eg_Nx.same (fun ad H locs LS hS hI hl hv K => row H locs LS x _ (K LS hl (hv.drop.push trivial)))
theorem eg_nx_dv {f : Int32 → Int32 → Int32} (h : eg_dv f (pc + 1) σ u ls st = some (true, .inl (pc2, σ2, u2, ls2, st2)))
    (row : ∀ (H : Heap) (locs : List Loc) (LS : Array Slot) (x y : Int32) (rest : List Value), ¬ y = 0 → W p l e R s m args below meth c H locs u.1 u.2 Q (F0 m (pc + 1) LS (.int (f x y) :: rest)) → W p l e R s m args below meth c H locs u.1 u.2 Q (F0 m pc LS (.int y :: .int x :: rest))) : eg_Nx X lv D A p l e R s m args below meth c Q mi pc σ u ls st pc2 σ2 u2 ls2 st2 := by
  unfold eg_dv at h
  split at h
  · rename_i y x r
    simp only [Option.some.injEq, Prod.mk.injEq, Sum.inl.injEq] at h
    obtain ⟨h0, rfl, rfl, rfl, rfl, rfl⟩ := h
    exact eg_Nx.same (fun ad H locs LS hS hI hl hv K => row H locs LS x y _ (by simpa using h0) (K LS hl (hv.drop.drop.push trivial)))
  · cases h
theorem eg_nx_b1 {f : Int32 → Bool} {t : Nat} {g : Bool} (h : eg_b1 f t (pc + 3) σ u ls st = some (g, .inl (pc2, σ2, u2, ls2, st2)))
    (row : ∀ (H : Heap) (locs : List Loc) (LS : Array Slot) (x : Int32) (rest : List Value), (f x = true → W p l e R s m args below meth c H locs u.1 u.2 Q (F0 m t LS rest)) → (f x = false → W p l e R s m args below meth c H locs u.1 u.2 Q (F0 m (pc + 3) LS rest)) → W p l e R s m args below meth c H locs u.1 u.2 Q (F0 m pc LS (.int x :: rest))) : eg_Nx X lv D A p l e R s m args below meth c Q mi pc σ u ls st pc2 σ2 u2 ls2 st2 := by
  unfold eg_b1 at h
  split at h
  · rename_i x r
    simp only [Option.some.injEq, Prod.mk.injEq, Sum.inl.injEq] at h
    obtain ⟨-, rfl, rfl, rfl, rfl, rfl⟩ := h
    refine eg_Nx.same (fun ad H locs LS hS hI hl hv K => row H locs LS x _ (fun hf => ?_) (fun hf => ?_))
    · have := K LS hl hv.drop
      rw [hf] at this
      exact this
    · have := K LS hl hv.drop
      rw [hf] at this
      exact this
  · cases h
theorem eg_nx_b2 {f : Int32 → Int32 → Bool} {t : Nat} {g : Bool} (h : eg_b2 f t (pc + 3) σ u ls st = some (g, .inl (pc2, σ2, u2, ls2, st2)))
    (row : ∀ (H : Heap) (locs : List Loc) (LS : Array Slot) (x y : Int32) (rest : List Value), (f x y = true → W p l e R s m args below meth c H locs u.1 u.2 Q (F0 m t LS rest)) → (f x y = false → W p l e R s m args below meth c H locs u.1 u.2 Q (F0 m (pc + 3) LS rest)) → W p l e R s m args below meth c H locs u.1 u.2 Q (F0 m pc LS (.int y :: .int x :: rest))) : eg_Nx X lv D A p l e R s m args below meth c Q mi pc σ u ls st pc2 σ2 u2 ls2 st2 := by
  unfold eg_b2 at h
  split at h
  · rename_i y x r
    simp only [Option.some.injEq, Prod.mk.injEq, Sum.inl.injEq] at h
    obtain ⟨-, rfl, rfl, rfl, rfl, rfl⟩ := h
    refine eg_Nx.same (fun ad H locs LS hS hI hl hv K => row H locs LS x y _ (fun hf => ?_) (fun hf => ?_))
    · have := K LS hl hv.drop.drop
      rw [hf] at this
      exact this
    · have := K LS hl hv.drop.drop
      rw [hf] at this
      exact this
  · cases h
theorem eg_nx_sti {i n : Nat} {g : Bool} (h : eg_sti i n σ u ls st = some (g, .inl (pc2, σ2, u2, ls2, st2)))
    (row : ∀ (ad : eg_A) (H : Heap) (locs : List Loc) (LS : Array Slot) (x : Int32) (rest : List Value), lv_has LS (pm_l mi) (eg_hl ad ls) → eg_zk ad → (∀ LS2 : Array Slot, lv_has LS2 (pm_l mi) (eg_hl ad (eg_put ls i (.inl x))) → W p l e R s m args below meth c H locs u.1 u.2 Q (F0 m n LS2 rest)) → W p l e R s m args below meth c H locs u.1 u.2 Q (F0 m pc LS (.int x :: rest))) : eg_Nx X lv D A p l e R s m args below meth c Q mi pc σ u ls st pc2 σ2 u2 ls2 st2 := by
  unfold eg_sti at h
  split at h
  · rename_i x r
    simp only [Option.some.injEq, Prod.mk.injEq, Sum.inl.injEq] at h
    obtain ⟨-, rfl, rfl, rfl, rfl, rfl⟩ := h
    exact eg_Nx.same (fun ad H locs LS hS hI hl hv K => row ad H locs LS x _ hl hS.2.2.2.2.1 (fun LS2 hl2 => K LS2 hl2 (hv.drop.put trivial)))
  · cases h
theorem eg_nx_str {i n : Nat} {g : Bool} (h : eg_str i n σ u ls st = some (g, .inl (pc2, σ2, u2, ls2, st2)))
    (row : ∀ (ad : eg_A) (H : Heap) (locs : List Loc) (LS : Array Slot) (q : Nat × Nat) (rest : List Value), lv_has LS (pm_l mi) (eg_hl ad ls) → eg_zk ad → (∀ LS2 : Array Slot, lv_has LS2 (pm_l mi) (eg_hl ad (eg_put ls i (.inr q))) → W p l e R s m args below meth c H locs u.1 u.2 Q (F0 m n LS2 rest)) → W p l e R s m args below meth c H locs u.1 u.2 Q (F0 m pc LS (eg_cv ad (.inr q) :: rest))) : eg_Nx X lv D A p l e R s m args below meth c Q mi pc σ u ls st pc2 σ2 u2 ls2 st2 := by
  unfold eg_str at h
  split at h
  · rename_i q r
    simp only [Option.some.injEq, Prod.mk.injEq, Sum.inl.injEq] at h
    obtain ⟨-, rfl, rfl, rfl, rfl, rfl⟩ := h
    exact eg_Nx.same (fun ad H locs LS hS hI hl hv K => row ad H locs LS q _ hl hS.2.2.2.2.1 (fun LS2 hl2 => K LS2 hl2 (hv.drop.put hv.top)))
  · cases h
end EGN
end
section
/-! what a program decides of the tables -/
theorem eg_getD_out {α : Type} (l : List α) (d : α) {k : Nat} (h : l.length ≤ k) : l.getD k d = d := by
  simp [List.getD, List.getElem?_eq_none h]
theorem pg_kc_ak (k : Nat) (h : pg_kc k ≠ 0) : pg_ak k = 0 := by
  by_cases hk : k < 58
  · have hd : ∀ k, k < 58 → pg_kc k ≠ 0 → pg_ak k = 0 := by decide +kernel
    exact hd k hk h
  · exact absurd (eg_getD_out _ _ (show 58 ≤ k from Nat.le_of_not_lt hk)) h
theorem pm_at_of (k : Nat) : (pg_ak k = 1 → pm_at k = .int) ∧ (pg_ak k = 2 → pm_at k = .byte) ∧ (pg_ak k = 3 → pm_at k = .char) ∧ (pg_ak k = 4 → pm_at k = .boolean) ∧ (pg_ak k = 5 → ∃ C, pm_at k = .object C) := by
  by_cases hk : k < 58
  · have hd : ∀ k, k < 58 → (pg_ak k = 1 → pm_at k = .int) ∧ (pg_ak k = 2 → pm_at k = .byte) ∧ (pg_ak k = 3 → pm_at k = .char) ∧ (pg_ak k = 4 → pm_at k = .boolean) ∧ (pg_ak k = 5 → pm_at k = .object "UnitDesk$Item" ∨ pm_at k = .object "UnitDesk$Kind") := by decide +kernel
    obtain ⟨h1, h2, h3, h4, h5⟩ := hd k hk
    exact ⟨h1, h2, h3, h4, fun h => (h5 h).elim (fun e => ⟨_, e⟩) (fun e => ⟨_, e⟩)⟩
  · have : pg_ak k = 0 := eg_getD_out _ _ (show 58 ≤ k from Nat.le_of_not_lt hk)
    rw [this]
    exact ⟨(fun h => nomatch h), (fun h => nomatch h), (fun h => nomatch h), (fun h => nomatch h), (fun h => nomatch h)⟩
theorem pm_cl_at : ∀ b, b < 10 → pm_cl[b]? = some (pm_c (b + 1)) := by
  intro b hb
  match b, hb with
  | 0, _ => rfl
  | 1, _ => rfl
  | 2, _ => rfl
  | 3, _ => rfl
  | 4, _ => rfl
  | 5, _ => rfl
  | 6, _ => rfl
  | 7, _ => rfl
  | 8, _ => rfl
  | 9, _ => rfl
  | n + 10, h => exact absurd h (by omega)
theorem pm_nf : ∀ b, b < 13 → (pm_c b).2.2 = pg_nf b := by decide +kernel
theorem pm_lays : ∀ b, 1 ≤ b → b ≤ 10 → ∀ w ∈ u_ws (pm_c b).1 (pm_c b).2.1 (pm_c b).2.2, w ∈ eg_tbl := by
  have hd : ∀ b, b < 11 → 1 ≤ b → ∀ w ∈ u_ws (pm_c b).1 (pm_c b).2.1 (pm_c b).2.2, w ∈ eg_tbl := by decide +kernel
  exact fun b h1 h2 => hd b (by omega) h1
theorem pm_fty0 : ∀ b, b < 11 → 1 ≤ b → ∀ a ∈ List.range (pg_nf b), parseFieldDescriptor ((pm_c b).2.1 a).2.2.1 = some (pm_ty b a) ∧ ((pg_ft b a = 1 ∧ pm_ty b a = .int) ∨ (pg_ft b a = 2 ∧ pm_ty b a = .boolean) ∨ (pg_ft b a = 4 ∧ pm_ty b a = .byte) ∨ (pg_ft b a = 3 ∧ (pm_ty b a).isReference = true)) := by decide +kernel
theorem pm_fty (b : Nat) (h : b < 11) (h1 : 1 ≤ b) (a : Nat) (ha : a < pg_nf b) : parseFieldDescriptor ((pm_c b).2.1 a).2.2.1 = some (pm_ty b a) ∧ ((pg_ft b a = 1 ∧ pm_ty b a = .int) ∨ (pg_ft b a = 2 ∧ pm_ty b a = .boolean) ∨ (pg_ft b a = 4 ∧ pm_ty b a = .byte) ∨ (pg_ft b a = 3 ∧ (pm_ty b a).isReference = true)) := pm_fty0 b h h1 a (List.mem_range.mpr ha)
theorem pm_fnm0 : ∀ b, b < 11 → 1 ≤ b → ∀ x ∈ List.range (pg_nf b), ∀ y ∈ List.range (pg_nf b), x ≠ y → ((pm_c b).2.1 x).2.1 ≠ ((pm_c b).2.1 y).2.1 := by decide +kernel
theorem pm_fnm (b : Nat) (h : b < 11) (h1 : 1 ≤ b) (x : Nat) (hx : x < pg_nf b) (y : Nat) (hy : y < pg_nf b) (n : x ≠ y) : ((pm_c b).2.1 x).2.1 ≠ ((pm_c b).2.1 y).2.1 := pm_fnm0 b h h1 x (List.mem_range.mpr hx) y (List.mem_range.mpr hy) n
end
section
/-! STEPS that read the store -/
theorem eg_gw_lay {C : String} {T : u_T} {N : Nat} : ∀ w ∈ u_ws C T N, eg_gw w = true := by
  intro w hw
  obtain ⟨k, -, rfl⟩ := List.mem_map.mp hw
  unfold u_lay
  split <;> rfl
theorem eg_hts {s : State} (hW : eg_Wd s) {b : Nat} (h1 : 1 ≤ b) (h2 : b ≤ 10) (args : Array Value) : ∀ w ∈ u_ws (pm_c b).1 (pm_c b).2.1 (pm_c b).2.2, w.before args s = true := fun w hw => hW.use (pm_lays b h1 h2 w hw) (eg_gw_lay w hw)
theorem eg_cv_ref {ad : eg_A} {q : Nat × Nat} (h : 2 ≤ q.1) : eg_cv ad (.inr q) = .ref (ad.1 q.1 q.2) := by
  have h0 : Nat.beq q.1 0 = false := by
    cases hb : Nat.beq q.1 0 with
    | false => rfl
    | true => have := Nat.eq_of_beq_eq_true hb; omega
  have h1 : Nat.beq q.1 1 = false := by
    cases hb : Nat.beq q.1 1 with
    | false => rfl
    | true => have := Nat.eq_of_beq_eq_true hb; omega
  show (bif Nat.beq q.1 0 then Value.null else bif Nat.beq q.1 1 then ad.2 q.2 else Value.ref (ad.1 q.1 q.2)) = _
  rw [h0, h1]
  rfl
section EGR
variable {S : Type} {X : eg_X S} {lv : S → Nat → Nat → Prop} {D : va_G} {A : Nat → Prop}
variable {p : Program} {l : Launch} {e : Env} {R : Room} {s : State} {m : MethodId} {args : Array Value} {below : List Frame} {meth : Method} {c : Code} {Q : State → Prop} {mi pc pc2 : Nat} {σ σ2 : S} {u u2 : Nat × Nat} {ls ls2 : eg_L} {st st2 : List eg_V} {ad : eg_A} {H : Heap} {locs : List Loc}
theorem eg_live_kc {q : Nat × Nat} (h : eg_lvV lv σ (.inr q)) (hk : pg_kc q.1 ≠ 0) : lv σ q.1 q.2 := by
  rcases h with h | h | h
  · rw [h] at hk; exact absurd rfl hk
  · rw [h] at hk; exact absurd rfl hk
  · exact h
theorem eg_live_ak {q : Nat × Nat} (h : eg_lvV lv σ (.inr q)) (hk : pg_ak q.1 ≠ 0) : lv σ q.1 q.2 := by
  rcases h with h | h | h
  · rw [h] at hk; exact absurd rfl hk
  · rw [h] at hk; exact absurd rfl hk
  · exact h
theorem eg_fld_of (hS : eg_Sta D A s ad) (hI : eg_Inv X lv D A s ad σ H locs) {k i j : Nat} (hl : lv σ k i) (hk : pg_kc k ≠ 0) (hj : j < pg_nf (pg_kc k)) : eg_fld s (pg_kc k) j (ad.1 k i) (eg_cv ad (X.1 σ k i j)) H := by
  have hm := (hI.1 k i hl).2
  unfold eg_mem at hm
  rw [if_pos (pg_kc_ak k hk)] at hm
  by_cases h50 : k < 50
  · rw [if_pos h50] at hm
    obtain ⟨r, h1, cell, q1, q2, q3, q4⟩ := hm
    have hb : pg_kc k - 1 < 10 := (List.getElem?_eq_some_iff.mp h1).1
    have he : pg_kc k - 1 + 1 = pg_kc k := by omega
    have hr : r = pm_c (pg_kc k) := by
      have := (pm_cl_at _ hb).symm.trans h1
      rw [he] at this
      exact (Option.some.inj this).symm
    subst hr
    obtain ⟨hSl, hfc, kC, hkC, hkind⟩ := hS.1.1 _ _ h1
    have hj' : j < (pm_c (pg_kc k)).2.2 := by rw [pm_nf _ (by omega)]; exact hj
    obtain ⟨cf, kf, fi, f, hi, hsl⟩ := hSl j hj'
    refine ⟨cf, kf, fi, f, cell, hi, (u_facts (args := #[]) hfc hkC (u_lays (eg_hts hS.2.1 (by omega) (by omega) #[]) (fun _ h => h) hj') hi).1, q1, by rw [q3]; exact (fun h => nomatch h), ?_⟩
    rw [hsl, q4 j hj']
    simp [vp_V, hj]
  · rw [if_neg h50] at hm
    exact hm.2 j hj
theorem eg_arr_of (hI : eg_Inv X lv D A s ad σ H locs) {k i : Nat} (hl : lv σ k i) (hk : pg_ak k ≠ 0) : eg_arr s (pm_at k) (ad.1 k i) (X.2.1 σ k i) (fun j => eg_cv ad (eg_nv (pg_ak k) (X.1 σ k i j))) H := by
  have hm := (hI.1 k i hl).2
  unfold eg_mem at hm
  rw [if_neg hk] at hm
  exact hm.1
theorem eg_inb_spec {x : Int32} {n : Nat} (h : eg_inb x n = true) : ¬ x < 0 ∧ x.toNatClampNeg < n := by
  unfold eg_inb at h
  simp only [Bool.and_eq_true, Bool.not_eq_true', decide_eq_false_iff_not] at h
  refine ⟨h.1, ?_⟩
  exact Nat.le_of_ble_eq_true h.2
theorem eg_nx_gf {a b idx : Nat} {g : Bool} (hC : eg_Cx mi p s m meth c) (hd : decode (pm_b mi) pc = .ok (.getfield idx, 3)) (hs : eg_fs mi idx b a) (h : eg_gf X pg_T a b (pc + 3) σ u ls st = some (g, .inl (pc2, σ2, u2, ls2, st2))) : eg_Nx X lv D A p l e R s m args below meth c Q mi pc σ u ls st pc2 σ2 u2 ls2 st2 := by
  obtain ⟨hx, hb, -, -, hown, -, -⟩ := hC
  unfold eg_gf at h
  split at h
  · rename_i q r
    cases hq : Nat.beq (pg_T.2.1 q.1) b with
    | false => rw [hq] at h; cases h
    | true =>
      rw [hq] at h
      simp only [cond_true, Option.some.injEq, Prod.mk.injEq, Sum.inl.injEq] at h
      obtain ⟨-, rfl, rfl, rfl, rfl, rfl⟩ := h
      have hkb : pg_kc q.1 = b := Nat.eq_of_beq_eq_true hq
      subst hkb
      have hk0 : pg_kc q.1 ≠ 0 := fun h0 => by
        have := hs.1
        rw [h0] at this
        exact absurd this (Nat.not_lt_zero _)
      refine eg_Nx.same (fun ad H locs LS hS hI hl hv K => ?_)
      have hlv := eg_live_kc hv.top hk0
      have h2 := (hI.1 _ _ hlv).1
      obtain ⟨cf, kf, fi, f, cell, f1, f2, f3, f4, f5⟩ := eg_fld_of hS hI hlv hk0 hs.1
      have K2 := K LS hl (hv.drop.push (hI.2.2.2.2 _ _ _ hlv (by unfold eg_wid; rw [if_pos (pg_kc_ak _ hk0)]; exact hs.1)))
      show W p l e R s m args below meth c H locs u.1 u.2 Q (F0 m pc LS (eg_cv ad (.inr q) :: r.map (eg_cv ad)))
      rw [eg_cv_ref h2]
      rcases hs.2 with hw | ⟨host, hw⟩
      · exact W.getf hx hb hown (hS.2.1.use hw rfl) f1 f2 f3 f4 f5 rfl rfl hd K2
      · exact va_Wgetf hx hb hown (hS.2.1.use hw rfl) f1 f2 f3 f4 f5 rfl rfl hd K2
  · cases h
theorem eg_nx_gs {a idx : Nat} (hC : eg_Cx mi p s m meth c) (hd : decode (pm_b mi) pc = .ok (.getstatic idx, 3)) (hs : eg_ss mi idx a) (hlive : eg_lvV lv σ (pg_sg a)) : eg_Nx X lv D A p l e R s m args below meth c Q mi pc σ u ls st (pc + 3) σ u ls (pg_sg a :: st) := by
  obtain ⟨hx, hb, -, -, hown, -, -⟩ := hC
  refine eg_Nx.same (fun ad H locs LS hS hI hl hv K => ?_)
  have K2 := K LS hl (hv.push hlive)
  rcases hs.2 with hw | ⟨host, hw⟩
  · exact va_gets hx hb (hS.2.2.1 a hs.1) hI.2.2.2.1 hown (hS.2.1.use hw rfl) (fun _ h => h) hd K2
  · exact va_getsN hx hb (hS.2.2.1 a hs.1) hI.2.2.2.1 hown (hS.2.1.use hw rfl) (fun _ h => h) hd K2
end EGR
section EGR2
variable {S : Type} {X : eg_X S} {lv : S → Nat → Nat → Prop} {D : va_G} {A : Nat → Prop}
variable {p : Program} {l : Launch} {e : Env} {R : Room} {s : State} {m : MethodId} {args : Array Value} {below : List Frame} {meth : Method} {c : Code} {Q : State → Prop} {mi pc pc2 : Nat} {σ σ2 : S} {u u2 : Nat × Nat} {ls ls2 : eg_L} {st st2 : List eg_V} {ad : eg_A} {H : Heap} {locs : List Loc}
/-- a load of a number -/
theorem eg_nx_al {t : Nat} (ht0 : t ≠ 0) (ht5 : t ≠ 5)
    (row : ∀ (H : Heap) (locs : List Loc) (LS : Array Slot) (a : Nat) (cell : Cell) (k : Nat) (x : Int32) (v : Value) (rest : List Value), pg_ak k = t → H[a]? = some cell → s.isArrayOf cell (pm_at k) → cell.vm ≠ .unknown → ¬ (x < 0 ∨ cell.slots.size ≤ x.toNatClampNeg) → cell.slots[x.toNatClampNeg]? = some v → W p l e R s m args below meth c H locs u.1 u.2 Q (F0 m (pc + 1) LS (v :: rest)) → W p l e R s m args below meth c H locs u.1 u.2 Q (F0 m pc LS (.int x :: .ref a :: rest)))
    (h : eg_al X pg_T t (pc + 1) σ u ls st = some (true, .inl (pc2, σ2, u2, ls2, st2))) : eg_Nx X lv D A p l e R s m args below meth c Q mi pc σ u ls st pc2 σ2 u2 ls2 st2 := by
  unfold eg_al at h
  split at h
  · rename_i x q r
    cases hq : Nat.beq (pg_T.2.2.1 q.1) t with
    | false => rw [hq] at h; cases h
    | true =>
      rw [hq] at h
      simp only [cond_true, Option.some.injEq, Prod.mk.injEq, Sum.inl.injEq] at h
      obtain ⟨hg, rfl, rfl, rfl, rfl, rfl⟩ := h
      have hkb : pg_ak q.1 = t := Nat.eq_of_beq_eq_true hq
      obtain ⟨hx0, hxn⟩ := eg_inb_spec hg
      refine eg_Nx.same (fun ad H locs LS hS hI hl hv K => ?_)
      have hlv := eg_live_ak hv.drop.top (by rw [hkb]; exact ht0)
      obtain ⟨cell, c1, c2, c3, c4, c5, c6⟩ := eg_arr_of hI hlv (by rw [hkb]; exact ht0)
      show W p l e R s m args below meth c H locs u.1 u.2 Q (F0 m pc LS (.int x :: eg_cv ad (.inr q) :: r.map (eg_cv ad)))
      rw [eg_cv_ref (hI.1 _ _ hlv).1]
      refine row H locs LS _ cell q.1 x (.int (eg_int (X.1 σ q.1 q.2 x.toNatClampNeg))) _ hkb c1 c2 c3 (fun z => z.elim hx0 (fun z => by omega)) ?_ (K LS hl (hv.drop.drop.push trivial))
      rw [c6 _ hxn]
      have h5 : Nat.beq (pg_ak q.1) 5 = false := by
        cases hb : Nat.beq (pg_ak q.1) 5 with
        | false => rfl
        | true => exact absurd (hkb.symm.trans (Nat.eq_of_beq_eq_true hb)) ht5
      unfold eg_nv
      rw [h5]
      rfl
  · cases h
theorem eg_nx_ar (hC : eg_Cx mi p s m meth c) (hd : decode (pm_b mi) pc = .ok (.aaload, 1)) (h : eg_ar X pg_T (pc + 1) σ u ls st = some (true, .inl (pc2, σ2, u2, ls2, st2))) : eg_Nx X lv D A p l e R s m args below meth c Q mi pc σ u ls st pc2 σ2 u2 ls2 st2 := by
  obtain ⟨hx, hb, -, -, hown, -, -⟩ := hC
  unfold eg_ar at h
  split at h
  · rename_i x q r
    cases hq : Nat.beq (pg_T.2.2.1 q.1) 5 with
    | false => rw [hq] at h; cases h
    | true =>
      rw [hq] at h
      simp only [cond_true, Option.some.injEq, Prod.mk.injEq, Sum.inl.injEq] at h
      obtain ⟨hg, rfl, rfl, rfl, rfl, rfl⟩ := h
      have hkb : pg_ak q.1 = 5 := Nat.eq_of_beq_eq_true hq
      have hk0 : pg_ak q.1 ≠ 0 := by rw [hkb]; decide
      obtain ⟨hx0, hxn⟩ := eg_inb_spec hg
      obtain ⟨C, hC5⟩ := (pm_at_of q.1).2.2.2.2 hkb
      refine eg_Nx.same (fun ad H locs LS hS hI hl hv K => ?_)
      have hlv := eg_live_ak hv.drop.top hk0
      obtain ⟨cell, c1, c2, c3, c4, c5, c6⟩ := eg_arr_of hI hlv hk0
      have hlive : eg_lvV lv σ (.inr (eg_ref (X.1 σ q.1 q.2 x.toNatClampNeg))) := by
        have h9 := hI.2.2.2.2 q.1 q.2 x.toNatClampNeg hlv (by unfold eg_wid; rw [if_neg hk0]; exact hxn)
        cases hv9 : X.1 σ q.1 q.2 x.toNatClampNeg with
        | inl y => exact Or.inl rfl
        | inr y => rw [hv9] at h9; exact h9
      show W p l e R s m args below meth c H locs u.1 u.2 Q (F0 m pc LS (.int x :: eg_cv ad (.inr q) :: r.map (eg_cv ad)))
      rw [eg_cv_ref (hI.1 _ _ hlv).1]
      refine W.aald hx hb c1 c2 (by rw [hC5]; rfl) c3 (fun z => z.elim hx0 (fun z => by omega)) (v := eg_cv ad (.inr (eg_ref (X.1 σ q.1 q.2 x.toNatClampNeg)))) ?_ rfl rfl hd (K LS hl (hv.drop.drop.push hlive))
      rw [c6 _ hxn]
      unfold eg_nv
      rw [hkb]
      rfl
  · cases h
theorem eg_nx_len (hC : eg_Cx mi p s m meth c) (hd : decode (pm_b mi) pc = .ok (.arraylength, 1)) {g : Bool} (h : eg_len X pg_T (pc + 1) σ u ls st = some (g, .inl (pc2, σ2, u2, ls2, st2))) : eg_Nx X lv D A p l e R s m args below meth c Q mi pc σ u ls st pc2 σ2 u2 ls2 st2 := by
  obtain ⟨hx, hb, -, -, hown, -, -⟩ := hC
  unfold eg_len at h
  split at h
  · rename_i q r
    cases hq : Nat.beq (pg_T.2.2.1 q.1) 0 with
    | true => rw [hq] at h; cases h
    | false =>
      rw [hq] at h
      simp only [cond_false, Option.some.injEq, Prod.mk.injEq, Sum.inl.injEq] at h
      obtain ⟨-, rfl, rfl, rfl, rfl, rfl⟩ := h
      have hk0 : pg_ak q.1 ≠ 0 := fun h0 => by
        have : Nat.beq (pg_ak q.1) 0 = true := by rw [h0]; rfl
        rw [show Nat.beq (pg_T.2.2.1 q.1) 0 = Nat.beq (pg_ak q.1) 0 from rfl, this] at hq
        cases hq
      refine eg_Nx.same (fun ad H locs LS hS hI hl hv K => ?_)
      have hlv := eg_live_ak hv.top hk0
      obtain ⟨cell, c1, c2, c3, c4, c5, c6⟩ := eg_arr_of hI hlv hk0
      show W p l e R s m args below meth c H locs u.1 u.2 Q (F0 m pc LS (eg_cv ad (.inr q) :: r.map (eg_cv ad)))
      rw [eg_cv_ref (hI.1 _ _ hlv).1]
      exact W.alen hx hb c1 c2 c5 rfl rfl hd (K LS hl (hv.drop.push trivial))
  · cases h
end EGR2
end
section
/-! STEPS that write -/
section EGW
variable {S : Type} (X : eg_X S) (lv : S → Nat → Nat → Prop)
def eg_Lwr : Prop := ∀ (σ : S) (k i j : Nat) (v : eg_V) (σ2 : S), lv σ k i → j < eg_wid X σ k i → eg_lvV lv σ v → X.2.2.1 σ k i j v = some σ2 → k < 50 ∧ (∀ k2 i2, lv σ2 k2 i2 ↔ lv σ k2 i2) ∧ (∀ k2 i2, X.2.1 σ2 k2 i2 = X.2.1 σ k2 i2) ∧ ∀ k2 i2 j2, lv σ k2 i2 → X.1 σ2 k2 i2 j2 = if k2 = k ∧ i2 = i ∧ j2 = j then v else X.1 σ k2 i2 j2
variable {X lv} {D : va_G} {A : Nat → Prop}
variable {p : Program} {l : Launch} {e : Env} {R : Room} {s : State} {m : MethodId} {args : Array Value} {below : List Frame} {meth : Method} {c : Code} {Q : State → Prop} {mi pc pc2 : Nat} {σ σ2 : S} {u u2 : Nat × Nat} {ls ls2 : eg_L} {st st2 : List eg_V} {ad : eg_A} {H H2 : Heap} {locs locs2 : List Loc}
theorem eg_arr.kept {U : State} {ty : FieldType} {a n : Nat} {f g : Nat → Value} (h : eg_arr U ty a n f H) (hq : H2[a]? = H[a]?) (hf : ∀ j, j < n → g j = f j) : eg_arr U ty a n g H2 := by
  obtain ⟨cell, c1, c2, c3, c4, c5, c6⟩ := h
  exact ⟨cell, by rw [hq]; exact c1, c2, c3, c4, c5, fun j hj => by rw [hf j hj]; exact c6 j hj⟩
theorem eg_fld.kept {U : State} {b j a : Nat} {v : Value} (h : eg_fld U b j a v H) (hq : H2[a]? = H[a]?) : eg_fld U b j a v H2 := by
  obtain ⟨cf, kf, fi, f, cell, f1, f2, f3, f4⟩ := h
  exact ⟨cf, kf, fi, f, cell, f1, f2, by rw [hq]; exact f3, f4⟩
theorem eg_mem.kept {U : State} {ad2 : eg_A} {k i : Nat} (h : eg_mem X D U ad σ k i H) (ha : ad2.1 k i = ad.1 k i) (hq : H2[ad.1 k i]? = H[ad.1 k i]?) (hz : X.2.1 σ2 k i = X.2.1 σ k i) (hr : ∀ j, j < eg_wid X σ k i → eg_cv ad2 (X.1 σ2 k i j) = eg_cv ad (X.1 σ k i j)) (hn : ∀ j, j < eg_wid X σ k i → eg_cv ad2 (eg_nv (pg_ak k) (X.1 σ2 k i j)) = eg_cv ad (eg_nv (pg_ak k) (X.1 σ k i j))) : eg_mem X D U ad2 σ2 k i H2 := by
  unfold eg_mem at h ⊢
  unfold eg_wid at hr hn
  by_cases h0 : pg_ak k = 0
  · rw [if_pos h0] at h hr hn ⊢
    by_cases h5 : k < 50
    · rw [if_pos h5] at h ⊢
      have e1 : (List.range (pg_nf (pg_kc k))).map (fun j => eg_cv ad2 (X.1 σ2 k i j)) = (List.range (pg_nf (pg_kc k))).map (fun j => eg_cv ad (X.1 σ k i j)) := List.map_congr_left (fun j hj => hr j (List.mem_range.mp hj))
      rw [e1, ha]
      exact va_at.kept h hq
    · rw [if_neg h5] at h ⊢
      rw [ha]
      obtain ⟨⟨cell, c1, c2⟩, h2⟩ := h
      exact ⟨⟨cell, by rw [hq]; exact c1, c2⟩, fun j hj => by rw [hr j hj]; exact (h2 j hj).kept hq⟩
  · rw [if_neg h0] at h hr hn ⊢
    rw [ha, hz]
    exact ⟨h.1.kept hq hn, fun h8 => by rw [hq]; exact h.2 h8⟩
theorem eg_Inv.write {k i j : Nat} {v : eg_V} (hL : eg_Lwr X lv) (hI : eg_Inv X lv D A s ad σ H locs) (hlv : lv σ k i) (hj : j < eg_wid X σ k i) (hv : eg_lvV lv σ v) (hw : X.2.2.1 σ k i j v = some σ2)
    (hnew : eg_mem X D s ad σ2 k i H2) (hoq : ∀ q, q ≠ ad.1 k i → H2[q]? = H[q]?) (hS2 : va_S A s.heap H2 locs2) : eg_Inv X lv D A s ad σ2 H2 locs2 := by
  obtain ⟨hk, w1, w2, w3⟩ := hL σ k i j v σ2 hlv hj hv hw
  obtain ⟨i1, i2, i3, i4, i5⟩ := hI
  refine ⟨fun k2 i2' h2 => ?_, fun k2 i2' h2 => i2 k2 i2' ((w1 _ _).mp h2), fun k2 i2' k3 i3' h2 h3 => i3 k2 i2' k3 i3' ((w1 _ _).mp h2) ((w1 _ _).mp h3), hS2, fun k2 i2' j2 h2 hj2 => ?_⟩
  · have h2' := (w1 _ _).mp h2
    refine ⟨(i1 k2 i2' h2').1, ?_⟩
    by_cases hk2 : k2 = k ∧ i2' = i
    · obtain ⟨rfl, rfl⟩ := hk2
      exact hnew
    · have hne : ad.1 k2 i2' ≠ ad.1 k i := fun e => hk2 (by have := i3 k i k2 i2' hlv h2' (Or.inl hk) e.symm; exact ⟨this.1.symm, this.2.symm⟩)
      have hrd : ∀ j2, X.1 σ2 k2 i2' j2 = X.1 σ k2 i2' j2 := fun j2 => by rw [w3 k2 i2' j2 h2', if_neg (fun z => hk2 ⟨z.1, z.2.1⟩)]
      exact (i1 k2 i2' h2').2.kept rfl (hoq _ hne) (w2 _ _) (fun j2 _ => by rw [hrd]) (fun j2 _ => by rw [hrd])
  · have h2' := (w1 _ _).mp h2
    have hlvV : ∀ x, eg_lvV lv σ x → eg_lvV lv σ2 x := fun x hx => by
      cases x with
      | inl y => trivial
      | inr q => exact hx.elim Or.inl (fun z => Or.inr (z.elim Or.inl (fun z => Or.inr ((w1 _ _).mpr z))))
    have hj3 : j2 < eg_wid X σ k2 i2' := by unfold eg_wid at hj2 ⊢; rw [w2] at hj2; exact hj2
    rw [w3 k2 i2' j2 h2']
    split
    · exact hlvV v hv
    · exact hlvV _ (i5 k2 i2' j2 h2' hj3)
theorem eg_LV.wrote {k i j : Nat} {v : eg_V} (hL : eg_Lwr X lv) (hlv : lv σ k i) (hj : j < eg_wid X σ k i) (hv : eg_lvV lv σ v) (hw : X.2.2.1 σ k i j v = some σ2) (h : eg_LV lv σ ls st) : eg_LV lv σ2 ls st := by
  obtain ⟨hk, w1, w2, w3⟩ := hL σ k i j v σ2 hlv hj hv hw
  have hlvV : ∀ x, eg_lvV lv σ x → eg_lvV lv σ2 x := fun x hx => by
    cases x with
    | inl y => trivial
    | inr q => exact hx.elim Or.inl (fun z => Or.inr (z.elim Or.inl (fun z => Or.inr ((w1 _ _).mpr z))))
  exact ⟨fun q hq => hlvV _ (h.1 q hq), fun w hw => hlvV _ (h.2 w hw)⟩
/-- a value of the field's type -/
theorem eg_fit_spec {t : Nat} {v : eg_V} {ty : FieldType} (hz : eg_zk ad) (ht : (t = 1 ∧ ty = .int) ∨ (t = 2 ∧ ty = .boolean) ∨ (t = 4 ∧ ty = .byte) ∨ (t = 3 ∧ ty.isReference = true)) (h : eg_fit t v = true) : narrow ty (eg_cv ad v) = eg_cv ad v ∧ fits ty (eg_cv ad v) = true := by
  cases v with
  | inl x =>
    show narrow ty (.int x) = .int x ∧ fits ty (.int x) = true
    rcases ht with ⟨rfl, rfl⟩ | ⟨rfl, rfl⟩ | ⟨rfl, rfl⟩ | ⟨rfl, ht⟩
    · exact ⟨rfl, rfl⟩
    · have h2 : x = 0 ∨ x = 1 := by simpa [eg_fit] using h
      rcases h2 with rfl | rfl <;> exact ⟨rfl, rfl⟩
    · have h2 : x.toInt8.toInt32 = x := by simpa [eg_fit] using h
      rw [← h2]
      exact ⟨pk_nb x, pk_fb x⟩
    · simp [eg_fit] at h
  | inr q =>
    rcases ht with ⟨rfl, rfl⟩ | ⟨rfl, rfl⟩ | ⟨rfl, rfl⟩ | ⟨rfl, ht⟩
    · cases h
    · cases h
    · cases h
    · rcases eg_cv_r hz q with e | ⟨t, e⟩ <;> rw [e] <;> cases ty <;> first | (exact ⟨rfl, rfl⟩) | cases ht
theorem eg_nx_pf {a b idx : Nat} (hL : eg_Lwr X lv) (hC : eg_Cx mi p s m meth c) (hd : decode (pm_b mi) pc = .ok (.putfield idx, 3)) (hs : eg_fs mi idx b a) (hb1 : 1 ≤ b) (hb2 : b ≤ 10) (hfin : ((pm_c b).2.1 a).2.2.2 = true → (pm_y mi).name = "<init>" ∧ ((pm_c b).2.1 a).1 = eg_own mi ∧ Jvm.Cond.fieldLink (eg_own mi) idx ((pm_c b).2.1 a).1 ((pm_c b).2.1 a).2.1 ((pm_c b).2.1 a).2.2.1 ∈ eg_tbl)
    (h : eg_pf X pg_T a b (pc + 3) σ u ls st = some (true, .inl (pc2, σ2, u2, ls2, st2))) : eg_Nx X lv D A p l e R s m args below meth c Q mi pc σ u ls st pc2 σ2 u2 ls2 st2 := by
  obtain ⟨hx, hb, -, -, hown, -, hname⟩ := hC
  unfold eg_pf at h
  split at h
  · rename_i v q r
    cases hq : Nat.beq (pg_T.2.1 q.1) b with
    | false => rw [hq] at h; cases h
    | true =>
      rw [hq] at h
      simp only [cond_true] at h
      split at h
      · rename_i σ3 hw
        simp only [Option.some.injEq, Prod.mk.injEq, Sum.inl.injEq] at h
        obtain ⟨hfit, rfl, rfl, rfl, rfl, rfl⟩ := h
        have hkb : pg_kc q.1 = b := Nat.eq_of_beq_eq_true hq
        subst hkb
        have hk0 : pg_kc q.1 ≠ 0 := by omega
        have ha0 := pg_kc_ak _ hk0
        intro ad H locs LS hS hI hl hv K
        have hlv := eg_live_kc hv.drop.top hk0
        have hj : a < eg_wid X σ q.1 q.2 := by unfold eg_wid; rw [if_pos ha0]; exact hs.1
        have hlvv := hv.top
        have hk50 : q.1 < 50 := (hL _ _ _ _ _ _ hlv hj hlvv hw).1
        have hm := (hI.1 _ _ hlv).2
        unfold eg_mem at hm
        rw [if_pos ha0, if_pos hk50] at hm
        obtain ⟨r9, h1, cell, q1, q2, q3, q4⟩ := hm
        have he : pg_kc q.1 - 1 + 1 = pg_kc q.1 := by omega
        have hr : r9 = pm_c (pg_kc q.1) := by
          have := (pm_cl_at (pg_kc q.1 - 1) (by omega)).symm.trans h1
          rw [he] at this
          exact (Option.some.inj this).symm
        subst hr
        obtain ⟨hSl, hfc, kC, hkC, hkind⟩ := hS.1.1 _ _ h1
        have hN : (pm_c (pg_kc q.1)).2.2 = pg_nf (pg_kc q.1) := pm_nf _ (by omega)
        have hj' : a < (pm_c (pg_kc q.1)).2.2 := by rw [hN]; exact hs.1
        obtain ⟨cf, kf, fi, f, hi, hsl⟩ := hSl a hj'
        have hts := eg_hts hS.2.1 hb1 hb2 args
        have hlays := u_lays hts (fun _ h => h) hj'
        have hst := (u_facts hfc hkC hlays hi).1
        obtain ⟨hdesc, hty⟩ := pm_fty (pg_kc q.1) (by omega) hb1 a hs.1
        obtain ⟨hn1, hn2⟩ := eg_fit_spec hS.2.2.2.2.1 hty hfit
        have hap := va_apart (D := D) (cl := pm_cl) (tys := []) (own := "") hts (fun _ h => h) (pm_ty (pg_kc q.1)) (fun k hk => (pm_fty (pg_kc q.1) (by omega) hb1 k (by rw [← hN]; exact hk)).1) (fun x hx y hy => pm_fnm (pg_kc q.1) (by omega) hb1 x (by rw [← hN]; exact hx) y (by rw [← hN]; exact hy)) hS.1 h1
        have hlen : a < ((List.range (pg_nf (pg_kc q.1))).map (fun j => eg_cv ad (X.1 σ q.1 q.2 j))).length := by simpa using hs.1
        have hAq : A (ad.1 q.1 q.2) := (hI.2.1 _ _ hlv).mpr hk50
        have fin : ∀ (H2 : Heap) (lc : List Loc), lc = locs ++ [⟨ad.1 q.1 q.2, f.slot⟩] → H2[ad.1 q.1 q.2]? = some (cell.setSlot f.slot (eg_cv ad v)) → H2.size = H.size → (∀ q9, q9 ≠ ad.1 q.1 q.2 → H2[q9]? = H[q9]?) → W p l e R s m args below meth c H2 lc u.1 u.2 Q (F0 m (pc + 3) LS (r.map (eg_cv ad))) := by
          intro H2 lc hlc e1 e2 e3
          subst hlc
          have hnew : eg_mem X D s ad σ3 q.1 q.2 H2 := by
            unfold eg_mem
            rw [if_pos ha0, if_pos hk50]
            rw [hsl] at e1
            refine ⟨_, h1, t_OB.to (V := updV (vp_V ((List.range (pg_nf (pg_kc q.1))).map (fun j => eg_cv ad (X.1 σ q.1 q.2 j)))) a (eg_cv ad v)) ⟨_, e1, q2, q3, t_set q4 hap hj' _⟩ (fun j hj9 => ?_)⟩
            have hj8 : j < pg_nf (pg_kc q.1) := by rw [← hN]; exact hj9
            obtain ⟨-, -, -, w3⟩ := hL _ _ _ _ _ _ hlv hj hlvv hw
            simp only [vp_V, updV, List.getD_eq_getElem?_getD, List.getElem?_map, List.getElem?_range hj8, Option.map_some, Option.getD_some, w3 q.1 q.2 j hlv]
            by_cases hja : j = a
            · simp [hja]
            · simp [hja]
          exact K ad H2 _ LS (fun _ _ _ => rfl) rfl hS (hI.write hL hlv hj hlvv hw hnew e3 (hI.2.2.2.1.put e2 e3 hAq)) hl (hv.drop.drop.wrote hL hlv hj hlvv hw)
        show W p l e R s m args below meth c H locs u.1 u.2 Q (F0 m pc LS (eg_cv ad v :: eg_cv ad (.inr q) :: r.map (eg_cv ad)))
        rw [eg_cv_ref (hI.1 _ _ hlv).1]
        cases hf : ((pm_c (pg_kc q.1)).2.1 a).2.2.2 with
        | true =>
          obtain ⟨g1, g2, g3⟩ := hfin hf
          have hlay := hts _ (u_in_lay hj')
          unfold u_lay at hlay
          rw [if_pos hf] at hlay
          have hcf : m.cls = cf := by
            obtain ⟨_, _, c', _, _, _, -, -, hf', -, -, -, hown2, -⟩ := Cond.laysFinal_spec hlay
            have e1 : c' = cf := by have := hi.symm.trans hf'; simp at this; exact this.1.symm
            rw [g2] at hown2
            rw [← e1]; exact Option.some.inj (hown.symm.trans hown2)
          have h6 := u_fits hfc hkC hkind (Or.inr hlay) hi hdesc hn1 hn2
          exact W.putFinK hx hb hown (hS.2.1.use g3 rfl) hi hst hcf (by rw [hname]; exact g1) (by rw [q2]; exact h6) q1 q3 (by rw [hsl]; exact k2_hasslot (q4 a hj')) rfl rfl hd (fun H2 e1 e2 e3 => fin H2 _ rfl e1 e2 e3)
        | false =>
          have hlay := hts _ (u_in_lay hj')
          unfold u_lay at hlay
          rw [if_neg (by rw [hf]; decide)] at hlay
          have h6 := u_store hfc hkC hkind hlay hi hdesc hn1 hn2
          rcases hs.2 with hw9 | ⟨host, hw9⟩
          · exact W.putK hx hb (f := f) ⟨hown, hS.2.1.use hw9 rfl, ⟨_, _, _, hi⟩, hst⟩ (by rw [q2]; exact h6) q1 q3 (by rw [hsl]; exact k2_hasslot (q4 a hj')) rfl rfl hd (fun H2 e1 e2 e3 => fin H2 _ rfl e1 e2 e3)
          · exact va_WputK hx hb (f := f) hown (hS.2.1.use hw9 rfl) hi hst (by rw [q2]; exact h6) q1 q3 (by rw [hsl]; exact k2_hasslot (q4 a hj')) rfl rfl hd (fun H2 e1 e2 e3 => fin H2 _ rfl e1 e2 e3)
      · cases h
  · cases h
end EGW
end
section
/-! STEPS that write into arrays -/
section EGAS
variable {S : Type} {X : eg_X S} {lv : S → Nat → Nat → Prop} {D : va_G} {A : Nat → Prop}
variable {p : Program} {l : Launch} {e : Env} {R : Room} {s : State} {m : MethodId} {args : Array Value} {below : List Frame} {meth : Method} {c : Code} {Q : State → Prop} {mi pc pc2 : Nat} {σ σ2 : S} {u u2 : Nat × Nat} {ls ls2 : eg_L} {st st2 : List eg_V} {ad : eg_A} {H H2 : Heap} {locs locs2 : List Loc}
theorem eg_arr.set {U : State} {ty : FieldType} {a n j : Nat} {f g : Nat → Value} {cell : Cell} {v : Value} (h : eg_arr U ty a n f H) (hc : H[a]? = some cell) (hj : j < n) (hq : H2[a]? = some (cell.setSlot j v)) (hf : ∀ i, i < n → g i = if i = j then v else f i) : eg_arr U ty a n g H2 := by
  obtain ⟨cell', c1, c2, c3, c4, c5, c6⟩ := h
  cases hc.symm.trans c1
  have hs : (cell.setSlot j v).slots = cell.slots.setIfInBounds j v := rfl
  refine ⟨_, hq, c2, c3, by rw [hs, Array.size_setIfInBounds]; exact c4, by rw [hs, Array.size_setIfInBounds]; exact c5, fun i hi => ?_⟩
  rw [hs, hf i hi, Array.getElem?_setIfInBounds]
  by_cases hij : j = i
  · subst hij
    rw [if_pos rfl, if_pos (by omega), if_pos rfl]
  · rw [if_neg hij, if_neg (fun z => hij z.symm)]
    exact c6 i hi
theorem eg_nx_as {t : Nat} {f : Int32 → Int32} (hL : eg_Lwr X lv) (ht0 : t ≠ 0) (ht5 : t ≠ 5)
    (row : ∀ (H : Heap) (locs : List Loc) (LS : Array Slot) (a : Nat) (cell : Cell) (k : Nat) (j x : Int32) (rest : List Value), pg_ak k = t → H[a]? = some cell → s.isArrayOf cell (pm_at k) → cell.vm ≠ .unknown → ¬ (j < 0 ∨ cell.slots.size ≤ j.toNatClampNeg) → (∀ H' : Heap, H'[a]? = some (cell.setSlot j.toNatClampNeg (.int (f x))) → H'.size = H.size → (∀ q, q ≠ a → H'[q]? = H[q]?) → W p l e R s m args below meth c H' (locs ++ [⟨a, j.toNatClampNeg⟩]) u.1 u.2 Q (F0 m (pc + 1) LS rest)) → W p l e R s m args below meth c H locs u.1 u.2 Q (F0 m pc LS (.int x :: .int j :: .ref a :: rest)))
    (h : eg_as X pg_T t f (pc + 1) σ u ls st = some (true, .inl (pc2, σ2, u2, ls2, st2))) : eg_Nx X lv D A p l e R s m args below meth c Q mi pc σ u ls st pc2 σ2 u2 ls2 st2 := by
  unfold eg_as at h
  split at h
  · rename_i v x q r
    cases hq : Nat.beq (pg_T.2.2.1 q.1) t with
    | false => rw [hq] at h; cases h
    | true =>
      rw [hq] at h
      simp only [cond_true] at h
      split at h
      · rename_i σ3 hw
        simp only [Option.some.injEq, Prod.mk.injEq, Sum.inl.injEq] at h
        obtain ⟨hg, rfl, rfl, rfl, rfl, rfl⟩ := h
        have hkb : pg_ak q.1 = t := Nat.eq_of_beq_eq_true hq
        have hk0 : pg_ak q.1 ≠ 0 := by rw [hkb]; exact ht0
        have h5 : Nat.beq (pg_ak q.1) 5 = false := by
          cases hb : Nat.beq (pg_ak q.1) 5 with
          | false => rfl
          | true => exact absurd (hkb.symm.trans (Nat.eq_of_beq_eq_true hb)) ht5
        obtain ⟨hx0, hxn⟩ := eg_inb_spec hg
        intro ad H locs LS hS hI hl hv K
        have hlv := eg_live_ak hv.drop.drop.top hk0
        have hj : x.toNatClampNeg < eg_wid X σ q.1 q.2 := by unfold eg_wid; rw [if_neg hk0]; exact hxn
        have htr : eg_lvV lv σ (.inl (f v)) := trivial
        obtain ⟨hk50, w1, w2, w3⟩ := hL _ _ _ _ _ _ hlv hj htr hw
        have harr := eg_arr_of hI hlv hk0
        obtain ⟨cell, c1, c2, c3, c4, c5, c6⟩ := id harr
        have hm := (hI.1 _ _ hlv).2
        unfold eg_mem at hm
        rw [if_neg hk0] at hm
        show W p l e R s m args below meth c H locs u.1 u.2 Q (F0 m pc LS (.int v :: .int x :: eg_cv ad (.inr q) :: r.map (eg_cv ad)))
        rw [eg_cv_ref (hI.1 _ _ hlv).1]
        refine row H locs LS _ cell q.1 x v _ hkb c1 c2 c3 (fun z => z.elim hx0 (fun z => by omega)) (fun H2 e1 e2 e3 => ?_)
        have hnew : eg_mem X D s ad σ3 q.1 q.2 H2 := by
          unfold eg_mem
          rw [if_neg hk0, w2]
          refine ⟨harr.set c1 hxn e1 (fun i hi => ?_), fun h8 => ?_⟩
          · rw [w3 _ _ _ hlv]
            unfold eg_nv
            rw [h5]
            by_cases hi2 : i = x.toNatClampNeg
            · rw [if_pos ⟨rfl, rfl, hi2⟩, if_pos hi2]
              rfl
            · rw [if_neg (fun z => hi2 z.2.2), if_neg hi2]
          · obtain ⟨cell2, d1, d2⟩ := hm.2 h8
            cases c1.symm.trans d1
            exact ⟨_, e1, d2⟩
        exact K ad H2 _ LS (fun _ _ _ => rfl) rfl hS (hI.write hL hlv hj htr hw hnew e3 (hI.2.2.2.1.put e2 e3 ((hI.2.1 _ _ hlv).mpr hk50))) hl (hv.drop.drop.drop.wrote hL hlv hj htr hw)
      · cases h
  · cases h
end EGAS
end
section
/-! STEPS that make cells -/
def eg_dft (k j : Nat) : eg_V := if pg_ak k = 0 then (if pg_ft (pg_kc k) j = 3 then .inr (0, 0) else .inl 0) else if pg_ak k = 5 then .inr (0, 0) else .inl 0
section EGMK
variable {S : Type} (X : eg_X S) (lv : S → Nat → Nat → Prop)
def eg_Lnw : Prop := ∀ (σ : S) (k n : Nat) (σ2 : S) (i : Nat), n ≤ 65536 → X.2.2.2.1 σ k n = some (σ2, i) → 2 ≤ k ∧ k < 50 ∧ ¬ lv σ k i ∧ (∀ k2 i2, lv σ2 k2 i2 ↔ lv σ k2 i2 ∨ (k2 = k ∧ i2 = i)) ∧ (∀ k2 i2, lv σ k2 i2 → X.2.1 σ2 k2 i2 = X.2.1 σ k2 i2 ∧ ∀ j, X.1 σ2 k2 i2 j = X.1 σ k2 i2 j) ∧ (pg_ak k ≠ 0 → X.2.1 σ2 k i = n) ∧ ∀ j, j < eg_wid X σ2 k i → X.1 σ2 k i j = eg_dft k j
def eg_Lst : Prop := ∀ (σ : S), (∀ a, a < pm_ns → eg_lvV lv σ (pg_sg a)) ∧ lv σ 53 0
variable {X lv} {D : va_G} {A : Nat → Prop}
variable {p : Program} {l : Launch} {e : Env} {R : Room} {s : State} {m : MethodId} {args : Array Value} {below : List Frame} {meth : Method} {c : Code} {Q : State → Prop} {mi pc pc2 : Nat} {σ σ2 : S} {u u2 : Nat × Nat} {ls ls2 : eg_L} {st st2 : List eg_V} {ad ad2 : eg_A} {H H2 : Heap} {locs locs2 : List Loc}
theorem eg_cv_ext {v : eg_V} (hv : eg_lvV lv σ v) (h1 : ∀ k i, lv σ k i → ad2.1 k i = ad.1 k i) (h2 : ad2.2 = ad.2) : eg_cv ad2 v = eg_cv ad v := by
  cases v with
  | inl x => rfl
  | inr q =>
    show (bif Nat.beq q.1 0 then Value.null else bif Nat.beq q.1 1 then ad2.2 q.2 else Value.ref (ad2.1 q.1 q.2)) = (bif Nat.beq q.1 0 then Value.null else bif Nat.beq q.1 1 then ad.2 q.2 else Value.ref (ad.1 q.1 q.2))
    rcases hv with h | h | h
    · rw [h]; rfl
    · rw [h, h2]; rfl
    · rw [h2, h1 _ _ h]
theorem eg_hl_ext (hv : ∀ q ∈ ls, eg_lvV lv σ q.2) (h1 : ∀ k i, lv σ k i → ad2.1 k i = ad.1 k i) (h2 : ad2.2 = ad.2) : eg_hl ad2 ls = eg_hl ad ls := List.map_congr_left (fun q hq => by rw [eg_cv_ext (hv q hq) h1 h2])
theorem eg_st_ext (hv : ∀ v ∈ st, eg_lvV lv σ v) (h1 : ∀ k i, lv σ k i → ad2.1 k i = ad.1 k i) (h2 : ad2.2 = ad.2) : st.map (eg_cv ad2) = st.map (eg_cv ad) := List.map_congr_left (fun q hq => eg_cv_ext (hv q hq) h1 h2)
theorem eg_Sta.ext (hT : eg_Lst lv) (σ : S) (h : eg_Sta D A s ad) (h1 : ∀ k i, lv σ k i → ad2.1 k i = ad.1 k i) (h2 : ad2.2 = ad.2) : eg_Sta D A s ad2 := by
  obtain ⟨a1, a2, a3, a4, a5, a6, a7⟩ := h
  refine ⟨a1, a2, fun a ha => ?_, a4, by unfold eg_zk; rw [h2]; exact a5, by rw [h1 _ _ (hT σ).2]; exact a6, a7⟩
  rw [eg_cv_ext ((hT σ).1 a ha) h1 h2]
  exact a3 a ha
theorem eg_nv_live {t : Nat} {v : eg_V} (h : eg_lvV lv σ v) : eg_lvV lv σ (eg_nv t v) := by
  unfold eg_nv
  cases Nat.beq t 5 with
  | false => exact trivial
  | true =>
    cases v with
    | inl x => exact Or.inl rfl
    | inr q => exact h
/-- the memory behind a making -/
theorem eg_Inv.make {k n i : Nat} (hT : eg_Lst lv) (hL : eg_Lnw X lv) (hn : n ≤ 65536) (hS : eg_Sta D A s ad) (hI : eg_Inv X lv D A s ad σ H locs) (hw : X.2.2.2.1 σ k n = some (σ2, i)) (hz : H2.size = H.size + 1) (ho : ∀ q, q < H.size → H2[q]? = H[q]?)
    (hnew : ∀ ad2 : eg_A, ad2.1 k i = H.size → eg_mem X D s ad2 σ2 k i H2) : ∃ ad2 : eg_A, ad2.1 k i = H.size ∧ (∀ k2 i2, lv σ k2 i2 → ad2.1 k2 i2 = ad.1 k2 i2) ∧ ad2.2 = ad.2 ∧ eg_Sta D A s ad2 ∧ eg_Inv X lv D A s ad2 σ2 H2 locs := by
  obtain ⟨hk2, hk50, hnl, w1, w2, w3, w4⟩ := hL σ k n σ2 i hn hw
  obtain ⟨i1, i2, i3, i4, i5⟩ := hI
  have hlt : ∀ k2 i2', lv σ k2 i2' → ad.1 k2 i2' < H.size := by
    intro k2 i2' h2
    have hm := (i1 k2 i2' h2).2
    unfold eg_mem at hm
    split at hm
    · split at hm
      · exact va_at.lt hm
      · obtain ⟨⟨cell, c1, -⟩, -⟩ := hm
        exact (Array.getElem?_eq_some_iff.mp c1).1
    · obtain ⟨⟨cell, c1, -⟩, -⟩ := hm
      exact (Array.getElem?_eq_some_iff.mp c1).1
  have hext : ∀ k2 i2', lv σ k2 i2' → (if k2 = k ∧ i2' = i then H.size else ad.1 k2 i2') = ad.1 k2 i2' := fun k2 i2' h2 => if_neg (fun z => hnl (by rw [← z.1, ← z.2]; exact h2))
  have hlvV : ∀ x, eg_lvV lv σ x → eg_lvV lv σ2 x := fun x hx => by
    cases x with
    | inl y => trivial
    | inr q => exact hx.elim Or.inl (fun z => Or.inr (z.elim Or.inl (fun z => Or.inr ((w1 _ _).mpr (Or.inl z)))))
  have hAn : A H.size := hS.2.2.2.1 _ i4.1
  refine ⟨(fun k2 i2' => if k2 = k ∧ i2' = i then H.size else ad.1 k2 i2', ad.2), if_pos ⟨rfl, rfl⟩, hext, rfl, hS.ext hT σ hext rfl, ?_⟩
  refine ⟨fun k2 i2' h2 => ?_, fun k2 i2' h2 => ?_, fun ka ia kb ib ha hb hab e => ?_, ⟨by rw [hz]; exact Nat.le_trans i4.1 (Nat.le_succ _), fun q h1 h2 => by rw [ho q (Nat.lt_of_lt_of_le h1 i4.1)]; exact i4.2.1 q h1 h2, i4.2.2⟩, fun k2 i2' j h2 hj => ?_⟩
  · rcases (w1 _ _).mp h2 with h3 | ⟨rfl, rfl⟩
    · refine ⟨(i1 _ _ h3).1, ?_⟩
      refine (i1 _ _ h3).2.kept (hext _ _ h3) (ho _ (hlt _ _ h3)) (w2 _ _ h3).1 (fun j hj => ?_) (fun j hj => ?_)
      · rw [(w2 _ _ h3).2]; exact eg_cv_ext (i5 _ _ _ h3 hj) hext rfl
      · rw [(w2 _ _ h3).2]; exact eg_cv_ext (eg_nv_live (i5 _ _ _ h3 hj)) hext rfl
    · exact ⟨hk2, hnew _ (if_pos ⟨rfl, rfl⟩)⟩
  · rcases (w1 _ _).mp h2 with h3 | ⟨rfl, rfl⟩
    · show A (if k2 = k ∧ i2' = i then H.size else ad.1 k2 i2') ↔ _
      rw [hext _ _ h3]
      exact i2 _ _ h3
    · show A (if k2 = k2 ∧ i2' = i2' then H.size else ad.1 k2 i2') ↔ _
      rw [if_pos ⟨rfl, rfl⟩]
      exact ⟨fun _ => hk50, fun _ => hAn⟩
  · have e' : (if ka = k ∧ ia = i then H.size else ad.1 ka ia) = (if kb = k ∧ ib = i then H.size else ad.1 kb ib) := e
    rcases (w1 _ _).mp ha with h3 | ⟨rfl, rfl⟩
    · rw [hext _ _ h3] at e'
      rcases (w1 _ _).mp hb with h4 | ⟨rfl, rfl⟩
      · rw [hext _ _ h4] at e'
        exact i3 _ _ _ _ h3 h4 hab e'
      · rw [if_pos ⟨rfl, rfl⟩] at e'
        have := hlt _ _ h3
        omega
    · rw [if_pos ⟨rfl, rfl⟩] at e'
      rcases (w1 _ _).mp hb with h4 | ⟨rfl, rfl⟩
      · rw [hext _ _ h4] at e'
        have := hlt _ _ h4
        omega
      · exact ⟨rfl, rfl⟩
  · rcases (w1 _ _).mp h2 with h3 | ⟨rfl, rfl⟩
    · rw [(w2 _ _ h3).2]
      refine hlvV _ (i5 _ _ _ h3 ?_)
      unfold eg_wid at hj ⊢
      rw [(w2 _ _ h3).1] at hj
      exact hj
    · rw [w4 j hj]
      unfold eg_dft
      split
      · split
        · exact Or.inl rfl
        · trivial
      · split
        · exact Or.inl rfl
        · trivial
theorem eg_LV.made {k n i : Nat} (hL : eg_Lnw X lv) (hn : n ≤ 65536) (hw : X.2.2.2.1 σ k n = some (σ2, i)) (h : eg_LV lv σ ls st) : eg_LV lv σ2 ls st := by
  obtain ⟨hk2, hk50, hnl, w1, w2, w3, w4⟩ := hL σ k n σ2 i hn hw
  have hlvV : ∀ x, eg_lvV lv σ x → eg_lvV lv σ2 x := fun x hx => by
    cases x with
    | inl y => trivial
    | inr q => exact hx.elim Or.inl (fun z => Or.inr (z.elim Or.inl (fun z => Or.inr ((w1 _ _).mpr (Or.inl z)))))
  exact ⟨fun q hq => hlvV _ (h.1 q hq), fun w hw => hlvV _ (h.2 w hw)⟩
/-- a made array's memory -/
theorem eg_mem_arr {k n i : Nat} {cA : ClassId} {ty : FieldType} (hL : eg_Lnw X lv) (hn : n ≤ 65536) (hw : X.2.2.2.1 σ k n = some (σ2, i)) (hk0 : pg_ak k ≠ 0) (hty : pm_at k = ty) (hAr : ArrOfT s cA ty) (hd : eg_cv ad2 (eg_nv (pg_ak k) (if pg_ak k = 5 then .inr (0, 0) else .inl 0)) = defaultValue ty)
    (ha : ad2.1 k i = H.size) (he : H2[H.size]? = some (arrV cA n (fun _ => defaultValue ty))) (hRA : k = 8 → va_RA s cA (.object "UnitDesk$Item")) : eg_mem X D s ad2 σ2 k i H2 := by
  obtain ⟨hk2, hk50, hnl, w1, w2, w3, w4⟩ := hL σ k n σ2 i hn hw
  unfold eg_mem
  rw [if_neg hk0, ha, w3 hk0, hty]
  refine ⟨⟨_, he, hAr n _, (fun h => nomatch h), by rw [arrV_size]; exact Nat.le_refl _, by rw [arrV_size], fun j hj => ?_⟩, fun h8 => ⟨_, he, hRA h8⟩⟩
  rw [arrV_read _ _ hj]
  show some _ = some (eg_cv ad2 (eg_nv (pg_ak k) (X.1 σ2 k i j)))
  rw [w4 j (by unfold eg_wid; rw [if_neg hk0, w3 hk0]; exact hj)]
  unfold eg_dft
  rw [if_neg hk0, hd]
theorem eg_nx_newa {a : Nat} {atype : ArrayType} (hT : eg_Lst lv) (hL : eg_Lnw X lv) (hC : eg_Cx mi p s m meth c) (hRm : R.cells = (pg_mt mi).2.1 ∧ R.slots = (pg_mt mi).2.2) (hd : decode (pm_b mi) pc = .ok (.newarray atype, 2)) (hs : (pg_ak a = 1 ∧ atype = .int) ∨ (pg_ak a = 2 ∧ atype = .byte) ∨ (pg_ak a = 4 ∧ atype = .boolean)) (ha8 : a ≠ 8) (hw0 : Jvm.Cond.arrayClass (newarray.typeOf atype) ∈ eg_tbl)
    (h : eg_newa X pg_T a mi (pc + 2) σ u ls st = some (true, .inl (pc2, σ2, u2, ls2, st2))) : eg_Nx X lv D A p l e R s m args below meth c Q mi pc σ u ls st pc2 σ2 u2 ls2 st2 := by
  obtain ⟨hx, hb, -, -, hown, -, -⟩ := hC
  unfold eg_newa at h
  split at h
  · rename_i x r
    split at h
    · rename_i σ3 i hw
      simp only [Option.some.injEq, Prod.mk.injEq, Sum.inl.injEq, Bool.and_eq_true, Bool.not_eq_true', decide_eq_false_iff_not] at h
      obtain ⟨⟨hx0, hx1, hx2, hx3⟩, rfl, rfl, rfl, rfl, rfl⟩ := h
      have hx1 := Nat.le_of_ble_eq_true hx1
      have hx2 := Nat.le_of_ble_eq_true hx2
      have hx3 := Nat.le_of_ble_eq_true hx3
      intro ad H locs LS hS hI hl hv K
      have hat := pm_at_of a
      have hty : pm_at a = newarray.typeOf atype ∧ pg_ak a ≠ 0 ∧ ∀ ad2 : eg_A, eg_cv ad2 (eg_nv (pg_ak a) (if pg_ak a = 5 then .inr (0, 0) else .inl 0)) = defaultValue (newarray.typeOf atype) := by
        rcases hs with ⟨h1, rfl⟩ | ⟨h1, rfl⟩ | ⟨h1, rfl⟩
        · exact ⟨hat.1 h1, by rw [h1]; decide, fun ad2 => by rw [h1]; rfl⟩
        · exact ⟨hat.2.1 h1, by rw [h1]; decide, fun ad2 => by rw [h1]; rfl⟩
        · exact ⟨hat.2.2.2.1 h1, by rw [h1]; decide, fun ad2 => by rw [h1]; rfl⟩
      refine va_newaK hx hb (hS.2.1.use hw0 rfl) (g := F0 m pc LS (.int x :: r.map (eg_cv ad))) rfl hd rfl hx0 rfl ?_ (by rw [hRm.1]; exact hx2) (by rw [hRm.2]; exact hx3) rfl (fun H2 cA e1 z1 o1 hAr hNm => ?_)
      · rcases hs with ⟨h1, rfl⟩ | ⟨h1, rfl⟩ | ⟨h1, rfl⟩ <;> simp only [newarray.typeOf, componentBytes] <;> omega
      · obtain ⟨ad2, b1, b2, b3, b4, b5⟩ := hI.make hT hL hx1 hS hw z1 o1 (fun ad2 hb => eg_mem_arr hL hx1 hw hty.2.1 hty.1 hAr (hty.2.2 ad2) hb e1 (fun h8 => absurd h8 ha8))
        have hlive : lv σ3 a i := ((hL _ _ _ _ _ hx1 hw).2.2.2.1 _ _).mpr (Or.inr ⟨rfl, rfl⟩)
        have K2 := K ad2 H2 locs LS b2 b3 b4 b5 (by rw [eg_hl_ext hv.1 b2 b3]; exact hl) ((hv.drop.made hL hx1 hw).push (Or.inr (Or.inr hlive)))
        rw [show (Sum.inr (a, i) :: r).map (eg_cv ad2) = .ref H.size :: r.map (eg_cv ad) by
          rw [List.map_cons, eg_cv_ref (hL _ _ _ _ _ hx1 hw).1, eg_st_ext hv.drop.2 b2 b3, b1]] at K2
        exact K2
    · cases h
  · cases h
end EGMK
end
section
/-! STEPS that make objects and arrays of references; stores of references; the copy of bytes -/
section EGNW
variable {S : Type} {X : eg_X S} {lv : S → Nat → Nat → Prop} {D : va_G} {A : Nat → Prop}
variable {p : Program} {l : Launch} {e : Env} {R : Room} {s : State} {m : MethodId} {args : Array Value} {below : List Frame} {meth : Method} {c : Code} {Q : State → Prop} {mi pc pc2 : Nat} {σ σ2 : S} {u u2 : Nat × Nat} {ls ls2 : eg_L} {st st2 : List eg_V} {ad ad2 : eg_A} {H H2 : Heap} {locs locs2 : List Loc}
theorem eg_dft_cv (b j : Nat) (hb : b < 11) (h1 : 1 ≤ b) (hj : j < pg_nf b) (ad : eg_A) : defaultValue (pm_ty b j) = eg_cv ad (if pg_ft b j = 3 then .inr (0, 0) else .inl 0) := by
  rcases (pm_fty b hb h1 j hj).2 with ⟨h2, h3⟩ | ⟨h2, h3⟩ | ⟨h2, h3⟩ | ⟨h2, h3⟩
  · rw [h2, h3]; rfl
  · rw [h2, h3]; rfl
  · rw [h2, h3]; rfl
  · rw [h2]
    cases hty : pm_ty b j <;> rw [hty] at h3 <;> first | (cases h3; done) | rfl
theorem eg_nx_new {a idx : Nat} (hT : eg_Lst lv) (hL : eg_Lnw X lv) (hC : eg_Cx mi p s m meth c) (hRm : R.cells = (pg_mt mi).2.1 ∧ R.slots = (pg_mt mi).2.2) (hd : decode (pm_b mi) pc = .ok (.new idx, 3)) (hb1 : 1 ≤ pg_kc a) (hb2 : pg_kc a ≤ 10) (hw1 : Jvm.Cond.classLink (eg_own mi) idx (pm_c (pg_kc a)).1 ∈ eg_tbl) (hw2 : Jvm.Cond.instantiable (pm_c (pg_kc a)).1 (pm_c (pg_kc a)).2.2 ∈ eg_tbl) (hw3 : Jvm.Cond.initialized (pm_c (pg_kc a)).1 ∈ eg_tbl)
    (h : eg_new X pg_T a mi (pc + 3) σ u ls st = some (true, .inl (pc2, σ2, u2, ls2, st2))) : eg_Nx X lv D A p l e R s m args below meth c Q mi pc σ u ls st pc2 σ2 u2 ls2 st2 := by
  obtain ⟨hx, hb, -, -, hown, -, -⟩ := hC
  unfold eg_new at h
  split at h
  · rename_i σ3 i hw
    simp only [Option.some.injEq, Prod.mk.injEq, Sum.inl.injEq, Bool.and_eq_true] at h
    obtain ⟨⟨hx2, hx3⟩, rfl, rfl, rfl, rfl, rfl⟩ := h
    have hx2 := Nat.le_of_ble_eq_true hx2
    have hx3 := Nat.le_of_ble_eq_true hx3
    have h0 : (0 : Nat) ≤ 65536 := by decide
    have hN : (pm_c (pg_kc a)).2.2 = pg_nf (pg_kc a) := pm_nf _ (by omega)
    have hcl : pm_cl[pg_kc a - 1]? = some (pm_c (pg_kc a)) := by
      have := pm_cl_at (pg_kc a - 1) (by omega)
      rw [show pg_kc a - 1 + 1 = pg_kc a by omega] at this
      exact this
    intro ad H locs LS hS hI hl hv K
    have hts := eg_hts hS.2.1 hb1 hb2 args
    have hKn := hS.1.1 _ _ hcl
    refine W.newcK hx hb hown (hS.2.1.use hw1 rfl) (hS.2.1.use hw2 rfl) (hS.2.1.use hw3 rfl) rfl hd (by rw [hRm.1]; exact hx2) (by rw [hRm.2, hN]; exact hx3) hKn.2.1 rfl (fun H2 kC hkC e1 z1 o1 => ?_)
    obtain ⟨hk2, hk50, hnl, w1, w2, w3, w4⟩ := hL σ a 0 σ3 i h0 hw
    have ha0 := pg_kc_ak a (by omega)
    obtain ⟨ad2, b1, b2, b3, b4, b5⟩ := hI.make hT hL h0 hS hw z1 o1 (fun ad2 hb9 => by
      unfold eg_mem
      rw [if_pos ha0, if_pos hk50, hb9]
      refine ⟨_, hcl, (u_born (pm_ty (pg_kc a)) hts (fun _ h => h) hKn hkC e1 (fun k hk => (pm_fty _ (by omega) hb1 k (by rw [← hN]; exact hk)).1)).to (fun j hj => ?_)⟩
      have hj8 : j < pg_nf (pg_kc a) := by rw [← hN]; exact hj
      simp only [vp_V, List.getD_eq_getElem?_getD, List.getElem?_map, List.getElem?_range hj8, Option.map_some, Option.getD_some]
      rw [w4 j (by unfold eg_wid; rw [if_pos ha0]; exact hj8)]
      unfold eg_dft
      rw [if_pos ha0]
      exact eg_dft_cv _ _ (by omega) hb1 hj8 ad2)
    have hlive : lv σ3 a i := (w1 _ _).mpr (Or.inr ⟨rfl, rfl⟩)
    have K2 := K ad2 H2 locs LS b2 b3 b4 b5 (by rw [eg_hl_ext hv.1 b2 b3]; exact hl) ((hv.made hL h0 hw).push (Or.inr (Or.inr hlive)))
    rw [show (Sum.inr (a, i) :: st).map (eg_cv ad2) = .ref H.size :: st.map (eg_cv ad) by
      rw [List.map_cons, eg_cv_ref hk2, eg_st_ext hv.2 b2 b3, b1]] at K2
    rw [show (pm_c (pg_kc a)).2.2 = pg_nf (pg_kc a) from hN]
    exact K2
  · cases h
theorem eg_nx_anew {a idx : Nat} {C : String} (hT : eg_Lst lv) (hL : eg_Lnw X lv) (hC : eg_Cx mi p s m meth c) (hRm : R.cells = (pg_mt mi).2.1 ∧ R.slots = (pg_mt mi).2.2) (hd : decode (pm_b mi) pc = .ok (.anewarray idx, 3)) (ha : a = 8) (hw1 : Jvm.Cond.classLink (eg_own mi) idx "UnitDesk$Item" ∈ eg_tbl)
    (h : eg_newa X pg_T a mi (pc + 3) σ u ls st = some (true, .inl (pc2, σ2, u2, ls2, st2))) : eg_Nx X lv D A p l e R s m args below meth c Q mi pc σ u ls st pc2 σ2 u2 ls2 st2 := by
  obtain ⟨hx, hb, -, -, hown, -, -⟩ := hC
  subst ha
  unfold eg_newa at h
  split at h
  · rename_i x r
    split at h
    · rename_i σ3 i hw
      simp only [Option.some.injEq, Prod.mk.injEq, Sum.inl.injEq, Bool.and_eq_true, Bool.not_eq_true', decide_eq_false_iff_not] at h
      obtain ⟨⟨hx0, hx1, hx2, hx3⟩, rfl, rfl, rfl, rfl, rfl⟩ := h
      have hx1 := Nat.le_of_ble_eq_true hx1
      have hx2 := Nat.le_of_ble_eq_true hx2
      have hx3 := Nat.le_of_ble_eq_true hx3
      intro ad H locs LS hS hI hl hv K
      refine W.anew hx hb hown (hS.2.1.use hw1 rfl) (va_AO.use hS.2.2.2.2.2.2) (g := F0 m pc LS (.int x :: r.map (eg_cv ad))) rfl hd rfl hx0 (by omega) (by rw [hRm.1]; exact hx2) (by rw [hRm.2]; exact hx3) (fun cA kA comp f1 f2 f3 f4 => ?_)
      generalize hH1 : H.push ({ cls := cA, slots := Array.replicate x.toNatClampNeg .null, vm := .none } : Cell) = H2
      have z1 : H2.size = H.size + 1 := by rw [← hH1, Array.size_push]
      have e1 : H2[H.size]? = some (arrV cA x.toNatClampNeg (fun _ => .null)) := by rw [← hH1, Array.getElem?_push_size, ← arrV_new]
      have o1 : ∀ q : Nat, q < H.size → H2[q]? = H[q]? := fun q hq => by rw [← hH1, Array.getElem?_push, if_neg (Nat.ne_of_lt hq)]
      have hAr : ArrOfT s cA (.object "UnitDesk$Item") := fun N z => ⟨(fun k h => nomatch h), kA, f2, comp, f3⟩
      obtain ⟨ad2, b1, b2, b3, b4, b5⟩ := hI.make hT hL hx1 hS hw z1 o1 (fun ad2 hb => eg_mem_arr (ty := .object "UnitDesk$Item") hL hx1 hw (by decide) rfl hAr rfl hb e1 (fun _ => ⟨kA, comp, f2, f3, f4, f1⟩))
      obtain ⟨hk2, hk50, hnl, w1, w2, w3, w4⟩ := hL σ 8 _ σ3 i hx1 hw
      have hlive : lv σ3 8 i := (w1 _ _).mpr (Or.inr ⟨rfl, rfl⟩)
      have K2 := K ad2 H2 locs LS b2 b3 b4 b5 (by rw [eg_hl_ext hv.1 b2 b3]; exact hl) ((hv.drop.made hL hx1 hw).push (Or.inr (Or.inr hlive)))
      rw [show (Sum.inr (8, i) :: r).map (eg_cv ad2) = .ref H.size :: r.map (eg_cv ad) by
        rw [List.map_cons, eg_cv_ref hk2, eg_st_ext hv.drop.2 b2 b3, b1]] at K2
      exact K2
    · cases h
  · cases h
theorem eg_nx_ast {a b : Nat} (hL : eg_Lwr X lv) (hC : eg_Cx mi p s m meth c) (hd : decode (pm_b mi) pc = .ok (.aastore, 1)) (ha : a = 4) (hb8 : b = 8)
    (h : eg_ast X pg_T a b (pc + 1) σ u ls st = some (true, .inl (pc2, σ2, u2, ls2, st2))) : eg_Nx X lv D A p l e R s m args below meth c Q mi pc σ u ls st pc2 σ2 u2 ls2 st2 := by
  obtain ⟨hx, hb, -, -, hown, -, -⟩ := hC
  subst ha; subst hb8
  unfold eg_ast at h
  split at h
  · rename_i v x q r
    cases hq : (Nat.beq (pg_T.2.1 v.1) 4 && Nat.beq q.1 8) with
    | false => rw [hq] at h; cases h
    | true =>
      rw [hq] at h
      simp only [cond_true] at h
      split at h
      · rename_i σ3 hw
        simp only [Option.some.injEq, Prod.mk.injEq, Sum.inl.injEq] at h
        obtain ⟨hg, rfl, rfl, rfl, rfl, rfl⟩ := h
        simp only [Bool.and_eq_true] at hq
        have hkv : pg_kc v.1 = 4 := Nat.eq_of_beq_eq_true hq.1
        have hk8 : q.1 = 8 := Nat.eq_of_beq_eq_true hq.2
        have hk5 : pg_ak q.1 = 5 := by rw [hk8]; rfl
        have hk0 : pg_ak q.1 ≠ 0 := by rw [hk5]; decide
        obtain ⟨hx0, hxn⟩ := eg_inb_spec hg
        intro ad H locs LS hS hI hl hv K
        have hlvv := eg_live_kc hv.top (by rw [hkv]; decide)
        have hlv := eg_live_ak hv.drop.drop.top hk0
        have hj : x.toNatClampNeg < eg_wid X σ q.1 q.2 := by unfold eg_wid; rw [if_neg hk0]; exact hxn
        obtain ⟨hk50, w1, w2, w3⟩ := hL _ _ _ _ _ _ hlv hj hv.top hw
        have harr := eg_arr_of hI hlv hk0
        obtain ⟨cell, c1, c2, c3, c4, c5, c6⟩ := id harr
        have hm := (hI.1 _ _ hlv).2
        unfold eg_mem at hm
        rw [if_neg hk0] at hm
        obtain ⟨cell2, d1, kA, comp, k1, k2, k3, k4⟩ := hm.2 hk8
        cases c1.symm.trans d1
        -- the item
        have hv50 : v.1 < 50 := by
          rcases Nat.lt_or_ge v.1 50 with z | z
          · exact z
          · exfalso
            have hd : ∀ k, k < 58 → 50 ≤ k → pg_kc k ≠ 4 := by decide +kernel
            rcases Nat.lt_or_ge v.1 58 with z2 | z2
            · exact hd v.1 z2 z hkv
            · have : pg_kc v.1 = 0 := eg_getD_out _ _ (show 58 ≤ v.1 from z2)
              rw [this] at hkv
              cases hkv
        have hmv := (hI.1 _ _ hlvv).2
        unfold eg_mem at hmv
        rw [if_pos (pg_kc_ak _ (by rw [hkv]; decide)), if_pos hv50, hkv] at hmv
        obtain ⟨r9, hr9, cellV, g1, g2, g3, -⟩ := hmv
        have hcl4 : pm_cl[3]? = some (pm_c 4) := rfl
        have hcls := (hS.1.1 3 _ hcl4).2
        have hcomp : comp = D.1 3 := Option.some.inj (k3.symm.trans hcls.1)
        subst hcomp
        obtain ⟨kC, hkC, -⟩ := hcls.2
        show W p l e R s m args below meth c H locs u.1 u.2 Q (F0 m pc LS (eg_cv ad (.inr v) :: .int x :: eg_cv ad (.inr q) :: r.map (eg_cv ad)))
        rw [eg_cv_ref (hI.1 _ _ hlv).1, eg_cv_ref (hI.1 _ _ hlvv).1]
        refine W.aast hx hb c1 c2.1 c3 k1 k2 rfl hkC ⟨hx0, by omega⟩ g1 (fun q h => by rw [g3] at h; cases h) (by rw [g2]; exact hkC) (by rw [g2]; exact va_assign hcls) rfl rfl hd (fun H2 e1 e2 e3 => ?_)
        have hnew : eg_mem X D s ad σ3 q.1 q.2 H2 := by
          unfold eg_mem
          rw [if_neg hk0, w2]
          refine ⟨harr.set c1 hxn e1 (fun i hi => ?_), fun h8 => ⟨_, e1, kA, _, k1, k2, k3, k4⟩⟩
          rw [w3 _ _ _ hlv]
          unfold eg_nv
          rw [hk5]
          by_cases hi2 : i = x.toNatClampNeg
          · rw [if_pos ⟨rfl, rfl, hi2⟩, if_pos hi2]
            exact eg_cv_ref (hI.1 _ _ hlvv).1
          · rw [if_neg (fun z => hi2 z.2.2), if_neg hi2]
        exact K ad H2 _ LS (fun _ _ _ => rfl) rfl hS (hI.write hL hlv hj hv.top hw hnew e3 (hI.2.2.2.1.put e2 e3 ((hI.2.1 _ _ hlv).mpr hk50))) hl (hv.drop.drop.drop.wrote hL hlv hj hv.top hw)
      · cases h
  · cases h
/-- System.arraycopy of bytes -/
def eg_Lcp (X : eg_X S) (lv : S → Nat → Nat → Prop) : Prop := ∀ (σ : S) (q : Nat × Nat) (sp : Nat) (d : Nat × Nat) (dp n : Nat) (σ2 : S), lv σ q.1 q.2 → lv σ d.1 d.2 → pg_ak d.1 = 2 → X.2.2.2.2 σ q sp d dp n = some σ2 → d.1 < 50 ∧ (∀ k2 i2, lv σ2 k2 i2 ↔ lv σ k2 i2) ∧ (∀ k2 i2, X.2.1 σ2 k2 i2 = X.2.1 σ k2 i2) ∧ ∀ k2 i2 j2, lv σ k2 i2 → X.1 σ2 k2 i2 j2 = if k2 = d.1 ∧ i2 = d.2 ∧ dp ≤ j2 ∧ j2 < dp + n then .inl (eg_int (X.1 σ q.1 q.2 (sp + (j2 - dp)))) else X.1 σ k2 i2 j2
theorem eg_Inv.copy {d : Nat × Nat} {dp n : Nat} {g : Nat → eg_V} (hd50 : d.1 < 50) (w1 : ∀ k2 i2, lv σ2 k2 i2 ↔ lv σ k2 i2) (w2 : ∀ k2 i2, X.2.1 σ2 k2 i2 = X.2.1 σ k2 i2) (w3 : ∀ k2 i2 j2, lv σ k2 i2 → X.1 σ2 k2 i2 j2 = if k2 = d.1 ∧ i2 = d.2 ∧ dp ≤ j2 ∧ j2 < dp + n then .inl (eg_int (g j2)) else X.1 σ k2 i2 j2)
    (hI : eg_Inv X lv D A s ad σ H locs) (hlv : lv σ d.1 d.2) (hnew : eg_mem X D s ad σ2 d.1 d.2 H2) (hoq : ∀ q, q ≠ ad.1 d.1 d.2 → H2[q]? = H[q]?) (hS2 : va_S A s.heap H2 locs2) : eg_Inv X lv D A s ad σ2 H2 locs2 := by
  obtain ⟨i1, i2, i3, i4, i5⟩ := hI
  refine ⟨fun k2 i2' h2 => ?_, fun k2 i2' h2 => i2 k2 i2' ((w1 _ _).mp h2), fun k2 i2' k3 i3' h2 h3 => i3 k2 i2' k3 i3' ((w1 _ _).mp h2) ((w1 _ _).mp h3), hS2, fun k2 i2' j2 h2 hj2 => ?_⟩
  · have h2' := (w1 _ _).mp h2
    refine ⟨(i1 k2 i2' h2').1, ?_⟩
    by_cases hk2 : k2 = d.1 ∧ i2' = d.2
    · obtain ⟨rfl, rfl⟩ := hk2
      exact hnew
    · have hne : ad.1 k2 i2' ≠ ad.1 d.1 d.2 := fun e => hk2 (by have := i3 d.1 d.2 k2 i2' hlv h2' (Or.inl hd50) e.symm; exact ⟨this.1.symm, this.2.symm⟩)
      have hrd : ∀ j2, X.1 σ2 k2 i2' j2 = X.1 σ k2 i2' j2 := fun j2 => by rw [w3 k2 i2' j2 h2', if_neg (fun z => hk2 ⟨z.1, z.2.1⟩)]
      exact (i1 k2 i2' h2').2.kept rfl (hoq _ hne) (w2 _ _) (fun j2 _ => by rw [hrd]) (fun j2 _ => by rw [hrd])
  · have h2' := (w1 _ _).mp h2
    have hlvV : ∀ x, eg_lvV lv σ x → eg_lvV lv σ2 x := fun x hx => by
      cases x with
      | inl y => trivial
      | inr q => exact hx.elim Or.inl (fun z => Or.inr (z.elim Or.inl (fun z => Or.inr ((w1 _ _).mpr z))))
    have hj3 : j2 < eg_wid X σ k2 i2' := by unfold eg_wid at hj2 ⊢; rw [w2] at hj2; exact hj2
    rw [w3 k2 i2' j2 h2']
    split
    · trivial
    · exact hlvV _ (i5 k2 i2' j2 h2' hj3)
theorem eg_nx_cpy {idx : Nat} (hL : eg_Lcp X lv) (hC : eg_Cx mi p s m meth c) (hd : decode (pm_b mi) pc = .ok (.invokestatic idx, 3)) (hw1 : Jvm.Cond.methodLink (eg_own mi) idx arraycopyName ∈ eg_tbl) (hw2 : Jvm.Cond.native arraycopyName ∈ eg_tbl) (hw3 : Jvm.Cond.static arraycopyName ∈ eg_tbl) (hw4 : Jvm.Cond.initialized "java/lang/System" ∈ eg_tbl) (hRm : 1 ≤ R.frames ∧ 8 + (nativeFrameWords "java/lang/System" "arraycopy" 5 + 11) ≤ R.locals)
    (h : eg_cpy X pg_T (pc + 3) σ u ls st = some (true, .inl (pc2, σ2, u2, ls2, st2))) : eg_Nx X lv D A p l e R s m args below meth c Q mi pc σ u ls st pc2 σ2 u2 ls2 st2 := by
  obtain ⟨hx, hb, -, hml, hown, -, -⟩ := hC
  unfold eg_cpy at h
  split at h
  · rename_i n dp d sp q r
    cases hq : (Nat.beq (pg_T.2.2.1 d.1) 2 && Nat.beq (pg_T.2.2.1 q.1) 2) with
    | false => rw [hq] at h; cases h
    | true =>
      rw [hq] at h
      simp only [cond_true] at h
      split at h
      · rename_i σ3 hw
        simp only [Option.some.injEq, Prod.mk.injEq, Sum.inl.injEq, Bool.and_eq_true, Bool.not_eq_true', decide_eq_false_iff_not] at h
        obtain ⟨⟨hn0, hs0, hd0, hsn, hdn, hrl, hby⟩, rfl, rfl, rfl, rfl, rfl⟩ := h
        simp only [Bool.and_eq_true] at hq
        have hkd : pg_ak d.1 = 2 := Nat.eq_of_beq_eq_true hq.1
        have hkq : pg_ak q.1 = 2 := Nat.eq_of_beq_eq_true hq.2
        have hkd0 : pg_ak d.1 ≠ 0 := by rw [hkd]; decide
        have hkq0 : pg_ak q.1 ≠ 0 := by rw [hkq]; decide
        have hsn := Nat.le_of_ble_eq_true hsn
        have hdn := Nat.le_of_ble_eq_true hdn
        have hrl := Nat.le_of_ble_eq_true hrl
        intro ad H locs LS hS hI hl hv K
        have hld := eg_live_ak hv.drop.drop.top hkd0
        have hlq := eg_live_ak hv.drop.drop.drop.drop.top hkq0
        obtain ⟨hd50, w1, w2, w3⟩ := hL _ _ _ _ _ _ _ hlq hld hkd hw
        obtain ⟨cs, s1, s2, s3, s4, s5, s6⟩ := eg_arr_of hI hlq hkq0
        have harr := eg_arr_of hI hld hkd0
        obtain ⟨cd, d1, d2, d3, d4, d5, d6⟩ := id harr
        rw [(pm_at_of q.1).2.1 hkq] at s2
        rw [(pm_at_of d.1).2.1 hkd] at d2
        have hsz0 : ∀ j, j < X.2.1 σ q.1 q.2 → cs.slots[j]? = some (.int (eg_int (X.1 σ q.1 q.2 j))) := fun j hj => by
          rw [s6 j hj]
          unfold eg_nv
          rw [hkq]
          rfl
        obtain ⟨hs6, k0, hk0, cm0, hkk0⟩ := s2
        obtain ⟨hd6, k1, hk1, cm1, hkk1⟩ := id d2
        have nn : ∀ z : Int32, ¬ z < 0 → z.toInt = (z.toNatClampNeg : Int) := by
          intro z hz
          have hz0 : (0 : Int) ≤ z.toInt := by
            have := Int32.not_lt.mp hz
            simpa using Int32.le_iff_toInt_le.mp this
          show z.toInt = ((z.toInt.toNat : Nat) : Int)
          omega
        show W p l e R s m args below meth c H locs u.1 u.2 Q (F0 m pc LS (.int n :: .int dp :: eg_cv ad (.inr d) :: .int sp :: eg_cv ad (.inr q) :: r.map (eg_cv ad)))
        rw [eg_cv_ref (hI.1 _ _ hld).1, eg_cv_ref (hI.1 _ _ hlq).1]
        intro T hTh Y
        obtain ⟨vm', Y', step⟩ := Y.arraycopy hx hown (hS.2.1.use hw1 rfl) (hS.2.1.use hw2 rfl) (hS.2.1.use hw3 rfl) (hS.2.1.use hw4 rfl) (src := ad.1 q.1 q.2) (dst := ad.1 d.1 d.2) (cs := cs) (cd := cd) (srcPos := sp) (destPos := dp) (n := n) (by rw [hTh]; exact s1) (by rw [hTh]; exact d1)
          hs6 hd6 s3 d3 hk0 hk1 hkk0 hkk1 (by simp [refKind]) hs0 hd0 hn0
          (by rw [nn sp hs0, nn n hn0]; omega)
          (by rw [nn dp hd0, nn n hn0]; omega)
          (fun vm₁ _ i hi => by
            have e9 : cs.slots.getD (sp.toNatClampNeg + i) .null = .int (eg_int (X.1 σ q.1 q.2 (sp.toNatClampNeg + i))) := by
              rw [Array.getD_eq_getD_getElem?, hsz0 _ (by omega)]
              rfl
            have hb9 : (eg_int (X.1 σ q.1 q.2 (sp.toNatClampNeg + i))).toInt8.toInt32 = eg_int (X.1 σ q.1 q.2 (sp.toNatClampNeg + i)) := by
              have := List.all_eq_true.mp hby i (List.mem_range.mpr hi)
              simpa using this
            refine ⟨?_, ?_⟩
            · rw [e9, ← hb9]
              exact pk_fb _
            · rw [e9]
              exact trivial)
          (g := F0 m pc LS (.int n :: .int dp :: .ref (ad.1 d.1 d.2) :: .int sp :: .ref (ad.1 q.1 q.2) :: r.map (eg_cv ad))) rfl (by rw [hml]; exact hl.1) (rest := r.map (eg_cv ad)) rfl (by rw [hb]; exact hd) hRm.1 (by rw [eg_cats hS.2.2.2.2.1]; show 2 * 0 + _ + _ ≤ _; omega)
        have hdl : dp.toNatClampNeg + (cs.stretch sp.toNatClampNeg n.toNatClampNeg).length ≤ cd.slots.size := by
          unfold Cell.stretch
          rw [List.length_map, List.length_range]
          omega
        obtain ⟨t1, t2, t3, -, -⟩ := cd.storeRun_facts dp.toNatClampNeg (cs.stretch sp.toNatClampNeg n.toNatClampNeg)
        have hal : ad.1 d.1 d.2 < H.size := (Array.getElem?_eq_some_iff.mp d1).1
        have hheap : ((T.setVm vm').setCell (ad.1 d.1 d.2) (copied cs cd sp dp n)).heap = H.setIfInBounds (ad.1 d.1 d.2) (copied cs cd sp dp n) := by rw [← hTh]; rfl
        have oq : ∀ q9 : Nat, q9 ≠ ad.1 d.1 d.2 → (H.setIfInBounds (ad.1 d.1 d.2) (copied cs cd sp dp n))[q9]? = H[q9]? := fun q9 hq9 => by simp [Array.getElem?_setIfInBounds, Ne.symm hq9]
        have hself : (H.setIfInBounds (ad.1 d.1 d.2) (copied cs cd sp dp n))[ad.1 d.1 d.2]? = some (copied cs cd sp dp n) := by simp [Array.getElem?_setIfInBounds, hal]
        have hm := (hI.1 _ _ hld).2
        unfold eg_mem at hm
        rw [if_neg hkd0] at hm
        have hnew : eg_mem X D s ad σ3 d.1 d.2 (H.setIfInBounds (ad.1 d.1 d.2) (copied cs cd sp dp n)) := by
          unfold eg_mem
          rw [if_neg hkd0, w2]
          refine ⟨⟨_, hself, ?_, by rw [t2]; exact d3, by rw [t3]; exact d4, by rw [t3]; exact d5, fun j hj => ?_⟩, fun h8 => ?_⟩
          · rw [(pm_at_of d.1).2.1 hkd]
            exact ⟨fun k h => hd6 k (by rw [← t2]; exact h), k1, by rw [t1]; exact hk1, cm1, hkk1⟩
          · rw [cd.storeRun_get _ _ j hdl]
            show _ = some (eg_cv ad (eg_nv (pg_ak d.1) (X.1 σ3 d.1 d.2 j)))
            rw [w3 _ _ _ hld, show (cs.stretch sp.toNatClampNeg n.toNatClampNeg).length = n.toNatClampNeg by unfold Cell.stretch; rw [List.length_map, List.length_range]]
            by_cases hjj : dp.toNatClampNeg ≤ j ∧ j < dp.toNatClampNeg + n.toNatClampNeg
            · rw [if_pos hjj, if_pos ⟨rfl, rfl, hjj⟩, hkd]
              unfold Cell.stretch
              rw [List.getElem?_map, List.getElem?_range (by omega)]
              show some (cs.slots.getD (sp.toNatClampNeg + (j - dp.toNatClampNeg)) .null) = _
              rw [Array.getD_eq_getD_getElem?, hsz0 _ (by omega)]
              rfl
            · rw [if_neg hjj, if_neg (fun z => hjj z.2.2)]
              exact d6 j hj
          · obtain ⟨cell2, x1, x2⟩ := hm.2 h8
            cases d1.symm.trans x1
            exact ⟨_, hself, by rw [t1]; exact x2⟩
        have hAd : A (ad.1 d.1 d.2) := (hI.2.1 _ _ hld).mpr hd50
        have hS2 : va_S A s.heap (H.setIfInBounds (ad.1 d.1 d.2) (copied cs cd sp dp n)) (locs ++ (cs.stretch sp.toNatClampNeg n.toNatClampNeg).zipIdx.map fun q => ⟨ad.1 d.1 d.2, dp.toNatClampNeg + q.2⟩) := by
          refine ⟨by simp; exact hI.2.2.2.1.1, fun q9 g1 g2 => ?_, fun q9 hq9 => ?_⟩
          · rw [oq q9 (fun e9 => g2 (by rw [e9]; exact hAd))]
            exact hI.2.2.2.1.2.1 q9 g1 g2
          · rcases List.mem_append.mp hq9 with h9 | h9
            · exact hI.2.2.2.1.2.2 q9 h9
            · obtain ⟨z, -, hz⟩ := List.mem_map.mp h9
              rw [← hz]
              exact hAd
        have hlvV : ∀ x, eg_lvV lv σ x → eg_lvV lv σ3 x := fun x hx => by
          cases x with
          | inl y => trivial
          | inr q => exact hx.elim Or.inl (fun z => Or.inr (z.elim Or.inl (fun z => Or.inr ((w1 _ _).mpr z))))
        have hv2 := hv.drop.drop.drop.drop.drop
        obtain ⟨t9, a1, b1⟩ := K ad _ _ LS (fun _ _ _ => rfl) rfl hS (hI.copy hd50 w1 w2 w3 hld hnew oq hS2) hl ⟨fun q hq => hlvV _ (hv2.1 q hq), fun w hw => hlvV _ (hv2.2 w hw)⟩ _ hheap Y'
        exact ⟨t9, step t9 a1, b1⟩
      · cases h
  · cases h
end EGNW
end
section
/-! ONE STEP that is no call: what the engine does, the machine does -/
def eg_ln : Jvm.ClassFile.Instr → Option Nat
  | .iconst _ | .aconst_null | .iload_n _ | .aload_n _ | .istore_n _ | .astore_n _ | .iadd | .isub | .imul | .iand | .ior | .ixor | .ishl | .ishr | .iushr | .ineg | .i2b | .i2s | .i2c | .idiv | .irem | .dup | .dup_x1 | .dup_x2 | .dup2 | .pop | .iaload | .baload | .caload | .aaload | .iastore | .bastore | .aastore | .arraylength | .ireturn | .areturn | .return_ => some 1
  | .bipush _ | .ldc _ | .iload _ | .aload _ | .istore _ | .astore _ | .newarray _ => some 2
  | .tableswitch .. | .lookupswitch .. => none
  | _ => some 3
theorem eg_beq_ff {a b : Nat} (h : a ≠ b) : Nat.beq a b = false := by
  cases hb : Nat.beq a b with
  | false => rfl
  | true => exact absurd (Nat.eq_of_beq_eq_true hb) h
theorem eg_ba_spec {S : Type} {f : Nat × Nat → Nat × Nat → Bool} {t pc pc2 : Nat} {σ σ2 : S} {u u2 : Nat × Nat} {ls ls2 : eg_L} {st st2 : List eg_V} {g : Bool} (h : eg_ba f t pc σ u ls st = some (g, .inl (pc2, σ2, u2, ls2, st2))) : ∃ x y r, st = .inr y :: .inr x :: r ∧ y.1 = 50 ∧ x.1 = 50 ∧ pc2 = (bif f x y then t else pc) ∧ σ2 = σ ∧ u2 = u ∧ ls2 = ls ∧ st2 = r := by
  unfold eg_ba at h
  split at h
  · rename_i y x r
    cases hq : (Nat.beq y.1 50 && Nat.beq x.1 50) with
    | false => rw [hq] at h; cases h
    | true =>
      rw [hq] at h
      simp only [Bool.and_eq_true] at hq
      cases h
      exact ⟨x, y, _, rfl, Nat.eq_of_beq_eq_true hq.1, Nat.eq_of_beq_eq_true hq.2, rfl, rfl, rfl, rfl, rfl⟩
  · cases h
theorem eg_call_spec {S : Type} {T : eg_T} {j b mi pc : Nat} {u : Nat × Nat} {st : List eg_V} {g : Bool} {c : eg_R S} (h : (eg_call T j b mi pc u st : eg_O S) = some (g, c)) : (T.2.2.2.2.1 j).1 ≤ st.length ∧ (b = 0 ∨ eg_rcv T b (st.drop ((T.2.2.2.2.1 j).1 - 1)) = true) ∧ g = (Nat.ble (st.length - (T.2.2.2.2.1 j).1) 8 && (Nat.ble (u.1 + (T.2.2.2.2.1 j).2.1) (T.2.2.2.2.1 mi).2.1 && Nat.ble (u.2 + (T.2.2.2.2.1 j).2.2) (T.2.2.2.2.1 mi).2.2)) ∧ c = .inr (.inl (j, (st.take (T.2.2.2.2.1 j).1).reverse, pc, st.drop (T.2.2.2.2.1 j).1)) := by
  unfold eg_call at h
  cases hq : (Nat.ble (T.2.2.2.2.1 j).1 st.length && (Nat.beq b 0 || eg_rcv T b (st.drop ((T.2.2.2.2.1 j).1 - 1)))) with
  | false => rw [hq] at h; cases h
  | true =>
    rw [hq] at h
    simp only [Bool.and_eq_true, Bool.or_eq_true] at hq
    cases h
    exact ⟨Nat.le_of_ble_eq_true hq.1, hq.2.elim (fun z => Or.inl (Nat.eq_of_beq_eq_true z)) Or.inr, rfl, rfl⟩
theorem eg_call_inl {S : Type} {T : eg_T} {j b mi pc : Nat} {u : Nat × Nat} {st : List eg_V} {g : Bool} {c : eg_C S} (h : (eg_call T j b mi pc u st : eg_O S) = some (g, .inl c)) : False := by
  obtain ⟨-, -, -, h4⟩ := eg_call_spec h
  cases h4
theorem eg_ret_inl {S : Type} {a : Nat} {st : List eg_V} {g : Bool} {c : eg_C S} : ¬ (eg_ri a st : eg_O S) = some (g, .inl c) ∧ ¬ (eg_ra st : eg_O S) = some (g, .inl c) ∧ ¬ (eg_rv st : eg_O S) = some (g, .inl c) := by
  refine ⟨fun h => ?_, fun h => ?_, fun h => ?_⟩
  · unfold eg_ri at h
    split at h <;> cases h
  · unfold eg_ra at h
    split at h <;> cases h
  · unfold eg_rv at h
    split at h <;> cases h
section EGX
variable {S : Type} {X : eg_X S} {lv : S → Nat → Nat → Prop} {D : va_G} {A : Nat → Prop}
variable {p : Program} {l : Launch} {e : Env} {R : Room} {s : State} {m : MethodId} {args : Array Value} {below : List Frame} {meth : Method} {c : Code} {Q : State → Prop} {mi pc pc2 : Nat} {σ σ2 : S} {u u2 : Nat × Nat} {ls ls2 : eg_L} {st st2 : List eg_V} {ad ad2 : eg_A} {H H2 : Heap} {locs locs2 : List Loc}
theorem eg_nx_oi {idx : Nat} (hC : eg_Cx mi p s m meth c) (hd : decode (pm_b mi) pc = .ok (.invokespecial idx, 3)) (hw1 : Jvm.Cond.methodLink (eg_own mi) idx Lib.objectInit ∈ eg_tbl) (hw2 : Jvm.Cond.instanceMethod Lib.objectInit ∈ eg_tbl) (hw3 : Jvm.Cond.code Lib.objectInit ⟨#[0xb1]⟩ 1 none ∈ eg_tbl) (hR : 1 ≤ R.frames ∧ 20 ≤ R.locals) {g : Bool}
    (h : eg_oi pg_T (pc + 3) σ u ls st = some (g, .inl (pc2, σ2, u2, ls2, st2))) : eg_Nx X lv D A p l e R s m args below meth c Q mi pc σ u ls st pc2 σ2 u2 ls2 st2 := by
  obtain ⟨hx, hb, -, hml, hown, -, -⟩ := hC
  unfold eg_oi at h
  split at h
  · rename_i q r
    cases hq : (!(Nat.beq (pg_T.2.1 q.1) 0) && Nat.ble r.length 8) with
    | false => rw [hq] at h; cases h
    | true =>
      rw [hq] at h
      simp only [cond_true, Option.some.injEq, Prod.mk.injEq, Sum.inl.injEq] at h
      obtain ⟨-, rfl, rfl, rfl, rfl, rfl⟩ := h
      simp only [Bool.and_eq_true, Bool.not_eq_true'] at hq
      have hk0 : pg_kc q.1 ≠ 0 := fun h0 => by
        have h1 : Nat.beq (pg_T.2.1 q.1) 0 = true := by show Nat.beq (pg_kc q.1) 0 = true; rw [h0]; rfl
        rw [h1] at hq
        cases hq.1
      have hrl := Nat.le_of_ble_eq_true hq.2
      refine eg_Nx.same (fun ad H locs LS hS hI hl hv K => ?_)
      have hlv := eg_live_kc hv.top hk0
      show W p l e R s m args below meth c H locs u.1 u.2 Q (F0 m pc LS (eg_cv ad (.inr q) :: r.map (eg_cv ad)))
      rw [eg_cv_ref (hI.1 _ _ hlv).1]
      exact W.objInit hx hb hown (hS.2.1.use hw1 rfl) (hS.2.1.use hw2 rfl) (hS.2.1.use hw3 rfl) rfl (by rw [hml]; exact hl.1) rfl hd hR.1 (by rw [eg_cats hS.2.2.2.2.1]; show 2 * 0 + _ + _ ≤ _; omega) (K LS hl hv.drop)
  · cases h
theorem eg_nx_mm {f : Int32 → Int32 → Int32} {g : Bool} (h : eg_mm f (pc + 3) σ u ls st = some (g, .inl (pc2, σ2, u2, ls2, st2)))
    (row : ∀ (ad : eg_A) (H : Heap) (locs : List Loc) (LS : Array Slot) (x y : Int32) (r : List eg_V), eg_zk ad → lv_has LS (pm_l mi) (eg_hl ad ls) → r.length ≤ 8 → W p l e R s m args below meth c H locs u.1 u.2 Q (F0 m (pc + 3) LS (.int (f x y) :: r.map (eg_cv ad))) → eg_Sta D A s ad → W p l e R s m args below meth c H locs u.1 u.2 Q (F0 m pc LS (.int y :: .int x :: r.map (eg_cv ad)))) : eg_Nx X lv D A p l e R s m args below meth c Q mi pc σ u ls st pc2 σ2 u2 ls2 st2 := by
  unfold eg_mm at h
  split at h
  · rename_i y x r
    cases hq : Nat.ble r.length 8 with
    | false => rw [hq] at h; cases h
    | true =>
      rw [hq] at h
      simp only [cond_true, Option.some.injEq, Prod.mk.injEq, Sum.inl.injEq] at h
      obtain ⟨-, rfl, rfl, rfl, rfl, rfl⟩ := h
      exact eg_Nx.same (fun ad H locs LS hS hI hl hv K => row ad H locs LS x y r hS.2.2.2.2.1 hl (Nat.le_of_ble_eq_true hq) (K LS hl (hv.drop.drop.push trivial)) hS)
  · cases h
set_option maxHeartbeats 4000000 in
theorem eg_next {I : Jvm.ClassFile.Instr} {len a b : Nat} (hLw : eg_Lwr X lv) (hLn : eg_Lnw X lv) (hLc : eg_Lcp X lv) (hLs : eg_Lst lv) (hC : eg_Cx mi p s m meth c) (hR : R = pm_R mi) (hu : u.1 ≤ R.cells ∧ u.2 ≤ R.slots) (hd : decode (pm_b mi) pc = .ok (I, len)) (hs : eg_site mi pc I a b) (hln : ∀ k, eg_ln I = some k → len = k)
    (h : eg_do X pg_T I a b mi pc σ u ls st = some (true, .inl (pc2, σ2, u2, ls2, st2))) : eg_Nx X lv D A p l e R s m args below meth c Q mi pc σ u ls st pc2 σ2 u2 ls2 st2 := by
  obtain ⟨hx, hb, hret, hml, hown, hlk, hnm⟩ := id hC
  have hRm : R.cells = (pg_mt mi).2.1 ∧ R.slots = (pg_mt mi).2.2 := by rw [hR]; exact ⟨rfl, rfl⟩
  have hRf : R.frames = (pm_f mi).1 ∧ R.locals = (pm_f mi).2 := by rw [hR]; exact ⟨rfl, rfl⟩
  cases I
  case iconst n => cases hln _ rfl; cases h; exact eg_Nx.same (fun ad H locs LS hS hI hl hv K => lv_iconst hx hb hd rfl (K LS hl (hv.push trivial)))
  case bipush n => cases hln _ rfl; cases h; exact eg_Nx.same (fun ad H locs LS hS hI hl hv K => lv_bipush hx hb hd rfl (K LS hl (hv.push trivial)))
  case sipush n => cases hln _ rfl; cases h; exact eg_Nx.same (fun ad H locs LS hS hI hl hv K => lv_sipush hx hb hd rfl (K LS hl (hv.push trivial)))
  case aconst_null => cases hln _ rfl; cases h; exact eg_Nx.same (fun ad H locs LS hS hI hl hv K => lv_null hx hb hd (K LS hl (hv.push (Or.inl rfl))))
  case ldc i =>
    cases hln _ rfl
    cases h
    rcases hs with ⟨rfl, hw⟩ | ⟨rfl, rfl, ho, rfl⟩
    · exact eg_Nx.same (fun ad H locs LS hS hI hl hv K => lv_ldc hx hb hown (hS.2.1.use hw rfl) hd (K LS hl (hv.push trivial)))
    · exact eg_Nx.same (fun ad H locs LS hS hI hl hv K => va_ldcS hx hb (own := "UnitDesk$Reading") (by rw [← ho]; exact hown) hS.2.2.2.2.2.1 hd (K LS hl (hv.push (Or.inr (Or.inr (hLs σ).2)))))
  case iload_n k =>
    cases hln _ rfl
    obtain ⟨v, h1, rfl, rfl, rfl, rfl, rfl, -⟩ := eg_psh_spec h
    obtain ⟨x, rfl, h2⟩ := eg_geti_spec h1
    exact eg_Nx.same (fun ad H locs LS hS hI hl hv K => lv_iload_n hx hb hd rfl (eg_at_l hl h2) (K LS hl (hv.push trivial)))
  case iload k =>
    cases hln _ rfl
    obtain ⟨v, h1, rfl, rfl, rfl, rfl, rfl, -⟩ := eg_psh_spec h
    obtain ⟨x, rfl, h2⟩ := eg_geti_spec h1
    exact eg_Nx.same (fun ad H locs LS hS hI hl hv K => lv_iload hx hb hd (eg_at_l hl h2) (K LS hl (hv.push trivial)))
  case aload_n k =>
    cases hln _ rfl
    obtain ⟨v, h1, rfl, rfl, rfl, rfl, rfl, -⟩ := eg_psh_spec h
    obtain ⟨x, rfl, h2⟩ := eg_getr_spec h1
    exact eg_Nx.same (fun ad H locs LS hS hI hl hv K => eg_load_n hx hb hS.2.2.2.2.1 hd (eg_at_l hl h2) (K LS hl (hv.push (hv.get h2))))
  case aload k =>
    cases hln _ rfl
    obtain ⟨v, h1, rfl, rfl, rfl, rfl, rfl, -⟩ := eg_psh_spec h
    obtain ⟨x, rfl, h2⟩ := eg_getr_spec h1
    exact eg_Nx.same (fun ad H locs LS hS hI hl hv K => eg_load hx hb hS.2.2.2.2.1 hd (eg_at_l hl h2) (K LS hl (hv.push (hv.get h2))))
  case istore_n k => cases hln _ rfl; exact eg_nx_sti h (fun ad H locs LS x rest hl hz K => lv_istore_n hx hb hd rfl hl hs rfl (fun LS2 h2 => K LS2 (eg_put_l hz h2)))
  case istore k => cases hln _ rfl; exact eg_nx_sti h (fun ad H locs LS x rest hl hz K => lv_istore hx hb hd hl hs rfl (fun LS2 h2 => K LS2 (eg_put_l hz h2)))
  case astore_n k => cases hln _ rfl; exact eg_nx_str h (fun ad H locs LS q rest hl hz K => eg_store_n hx hb hz hd hl hs K)
  case astore k => cases hln _ rfl; exact eg_nx_str h (fun ad H locs LS q rest hl hz K => eg_store hx hb hz hd hl hs K)
  case iinc i n =>
    cases hln _ rfl
    replace h : eg_inc i n (pc + 3) σ u ls st = some (true, .inl (pc2, σ2, u2, ls2, st2)) := h
    unfold eg_inc at h
    split at h
    · rename_i x hg
      cases h
      refine eg_Nx.same (fun ad H locs LS hS hI hl hv K => ?_)
      obtain ⟨k, hk⟩ := List.getElem?_of_mem (List.mem_map.mpr ⟨(i, Sum.inl x), eg_get_mem hg, rfl⟩ : (i, Value.int x) ∈ eg_hl ad ls)
      exact lv_iinc hx hb hd hl hk rfl hs rfl (fun LS2 h2 => K LS2 (eg_put_l hS.2.2.2.2.1 h2) (hv.put trivial))
    · cases h
  case iadd => cases hln _ rfl; exact eg_nx_bin h (fun H locs LS x y rest K => lv_iadd hx hb hd K)
  case isub => cases hln _ rfl; exact eg_nx_bin h (fun H locs LS x y rest K => lv_isub hx hb hd K)
  case imul => cases hln _ rfl; exact eg_nx_bin h (fun H locs LS x y rest K => lv_imul hx hb hd K)
  case iand => cases hln _ rfl; exact eg_nx_bin h (fun H locs LS x y rest K => lv_iand hx hb hd K)
  case ior => cases hln _ rfl; exact eg_nx_bin h (fun H locs LS x y rest K => lv_ior hx hb hd K)
  case ixor => cases hln _ rfl; exact eg_nx_bin h (fun H locs LS x y rest K => lv_ixor hx hb hd K)
  case ishl => cases hln _ rfl; exact eg_nx_bin h (fun H locs LS x y rest K => lv_ishl hx hb hd K)
  case ishr => cases hln _ rfl; exact eg_nx_bin h (fun H locs LS x y rest K => lv_ishr hx hb hd K)
  case iushr => cases hln _ rfl; exact eg_nx_bin h (fun H locs LS x y rest K => lv_iushr hx hb hd rfl K)
  case ineg => cases hln _ rfl; exact eg_nx_un h (fun H locs LS x rest K => lv_ineg hx hb hd K)
  case i2b => cases hln _ rfl; exact eg_nx_un h (fun H locs LS x rest K => lv_i2b hx hb hd rfl K)
  case i2s => cases hln _ rfl; exact eg_nx_un h (fun H locs LS x rest K => lv_i2s hx hb hd rfl K)
  case i2c => cases hln _ rfl; exact eg_nx_un h (fun H locs LS x rest K => lv_i2c hx hb hd rfl K)
  case idiv => cases hln _ rfl; exact eg_nx_dv h (fun H locs LS x y rest h0 K => lv_idiv hx hb hd h0 K)
  case irem => cases hln _ rfl; exact eg_nx_dv h (fun H locs LS x y rest h0 K => lv_irem hx hb hd h0 K)
  case dup =>
    cases hln _ rfl
    obtain ⟨h1, rfl, rfl, rfl, rfl, -⟩ := eg_stk_spec h
    unfold eg_dup at h1
    split at h1
    · cases h1
      exact eg_Nx.same (fun ad H locs LS hS hI hl hv K => lv_dup hx hb hd (eg_cat hS.2.2.2.2.1 _) (K LS hl (hv.push hv.top)))
    · cases h1
  case dup_x1 =>
    cases hln _ rfl
    obtain ⟨h1, rfl, rfl, rfl, rfl, -⟩ := eg_stk_spec h
    unfold eg_dx1 at h1
    split at h1
    · cases h1
      exact eg_Nx.same (fun ad H locs LS hS hI hl hv K => lv_dup_x1 hx hb hd (eg_cat hS.2.2.2.2.1 _) (eg_cat hS.2.2.2.2.1 _) (K LS hl (((hv.drop.drop.push hv.top).push hv.drop.top).push hv.top)))
    · cases h1
  case dup_x2 =>
    cases hln _ rfl
    obtain ⟨h1, rfl, rfl, rfl, rfl, -⟩ := eg_stk_spec h
    unfold eg_dx2 at h1
    split at h1
    · cases h1
      exact eg_Nx.same (fun ad H locs LS hS hI hl hv K => lv_dup_x2 hx hb hd (eg_cat hS.2.2.2.2.1 _) (eg_cat hS.2.2.2.2.1 _) (eg_cat hS.2.2.2.2.1 _) (K LS hl ((((hv.drop.drop.drop.push hv.top).push hv.drop.drop.top).push hv.drop.top).push hv.top)))
    · cases h1
  case dup2 =>
    cases hln _ rfl
    obtain ⟨h1, rfl, rfl, rfl, rfl, -⟩ := eg_stk_spec h
    unfold eg_d2 at h1
    split at h1
    · cases h1
      exact eg_Nx.same (fun ad H locs LS hS hI hl hv K => lv_dup2_11 hx hb hd (eg_cat hS.2.2.2.2.1 _) (eg_cat hS.2.2.2.2.1 _) (K LS hl ((hv.push hv.drop.top).push hv.top)))
    · cases h1
  case pop =>
    cases hln _ rfl
    obtain ⟨h1, rfl, rfl, rfl, rfl, -⟩ := eg_stk_spec h
    unfold eg_pop at h1
    split at h1
    · cases h1
      exact eg_Nx.same (fun ad H locs LS hS hI hl hv K => lv_pop hx hb hd (eg_cat hS.2.2.2.2.1 _) (K LS hl hv.drop))
    · cases h1
  case ifCond cd off =>
    cases hln _ rfl
    cases cd
    · exact eg_nx_b1 h (fun H locs LS x rest kt kf => lv_if_eq hx hb hd hs (fun z => kt (by simpa using z)) (fun z => kf (by simpa using z)))
    · exact eg_nx_b1 h (fun H locs LS x rest kt kf => lv_if_ne hx hb hd hs (fun z => kt (by simpa using z)) (fun z => kf (by simpa using z)))
    · exact eg_nx_b1 h (fun H locs LS x rest kt kf => lv_if_lt hx hb hd hs (fun z => kt (by simpa using z)) (fun z => kf (by simpa using z)))
    · exact eg_nx_b1 h (fun H locs LS x rest kt kf => lv_if_ge hx hb hd hs (fun z => kt (by simpa using z)) (fun z => kf (by simpa using z)))
    · exact eg_nx_b1 h (fun H locs LS x rest kt kf => lv_if_gt hx hb hd hs (fun z => kt (by simpa using z)) (fun z => kf (by simpa using z)))
    · exact eg_nx_b1 h (fun H locs LS x rest kt kf => lv_if_le hx hb hd hs (fun z => kt (by simpa using z)) (fun z => kf (by simpa using z)))
  case if_icmp cd off =>
    cases hln _ rfl
    cases cd
    · exact eg_nx_b2 h (fun H locs LS x y rest kt kf => lv_icmp_eq hx hb hd hs (fun z => kt (by simpa using z)) (fun z => kf (by simpa using z)))
    · exact eg_nx_b2 h (fun H locs LS x y rest kt kf => lv_icmp_ne hx hb hd hs (fun z => kt (by simpa using z)) (fun z => kf (by simpa using z)))
    · exact eg_nx_b2 h (fun H locs LS x y rest kt kf => lv_icmp_lt hx hb hd hs (fun z => kt (by simpa using z)) (fun z => kf (by simpa using z)))
    · exact eg_nx_b2 h (fun H locs LS x y rest kt kf => lv_icmp_ge hx hb hd hs (fun z => kt (by simpa using z)) (fun z => kf (by simpa using z)))
    · exact eg_nx_b2 h (fun H locs LS x y rest kt kf => lv_icmp_gt hx hb hd hs (fun z => kt (by simpa using z)) (fun z => kf (by simpa using z)))
    · exact eg_nx_b2 h (fun H locs LS x y rest kt kf => lv_icmp_le hx hb hd hs (fun z => kt (by simpa using z)) (fun z => kf (by simpa using z)))
  case ifnull off =>
    cases hln _ rfl
    replace h : eg_bn (fun q => Nat.beq q.1 0) a (pc + 3) σ u ls st = some (true, .inl (pc2, σ2, u2, ls2, st2)) := h
    unfold eg_bn at h
    split at h
    · rename_i q r
      cases h1 : Nat.beq q.1 1 with
      | true => rw [h1] at h; cases h
      | false =>
        rw [h1] at h
        cases h
        refine eg_Nx.same (fun ad H locs LS hS hI hl hv K => ?_)
        have K2 := K LS hl hv.drop
        dsimp only at K2
        cases h0 : Nat.beq q.1 0 with
        | true =>
          rw [h0] at K2
          show W p l e R s m args below meth c H locs _ _ Q (F0 m pc LS (eg_cv ad (.inr q) :: List.map (eg_cv ad) _))
          rw [show eg_cv ad (.inr q) = .null by show (bif Nat.beq q.1 0 then _ else _) = _; rw [h0]; rfl]
          exact lv_ifnullN hx hb hd hs K2
        | false =>
          rw [h0] at K2
          show W p l e R s m args below meth c H locs _ _ Q (F0 m pc LS (eg_cv ad (.inr q) :: List.map (eg_cv ad) _))
          rw [show eg_cv ad (.inr q) = .ref (ad.1 q.1 q.2) by show (bif Nat.beq q.1 0 then _ else bif Nat.beq q.1 1 then _ else _) = _; rw [h0, h1]; rfl]
          exact lv_ifnull hx hb hd K2
    · cases h
  case ifnonnull off =>
    cases hln _ rfl
    replace h : eg_bn (fun q => !(Nat.beq q.1 0)) a (pc + 3) σ u ls st = some (true, .inl (pc2, σ2, u2, ls2, st2)) := h
    unfold eg_bn at h
    split at h
    · rename_i q r
      cases h1 : Nat.beq q.1 1 with
      | true => rw [h1] at h; cases h
      | false =>
        rw [h1] at h
        cases h
        refine eg_Nx.same (fun ad H locs LS hS hI hl hv K => ?_)
        have K2 := K LS hl hv.drop
        dsimp only at K2
        cases h0 : Nat.beq q.1 0 with
        | true =>
          rw [h0] at K2
          show W p l e R s m args below meth c H locs _ _ Q (F0 m pc LS (eg_cv ad (.inr q) :: List.map (eg_cv ad) _))
          rw [show eg_cv ad (.inr q) = .null by show (bif Nat.beq q.1 0 then _ else _) = _; rw [h0]; rfl]
          exact lv_ifnonnullN hx hb hd K2
        | false =>
          rw [h0] at K2
          show W p l e R s m args below meth c H locs _ _ Q (F0 m pc LS (eg_cv ad (.inr q) :: List.map (eg_cv ad) _))
          rw [show eg_cv ad (.inr q) = .ref (ad.1 q.1 q.2) by show (bif Nat.beq q.1 0 then _ else bif Nat.beq q.1 1 then _ else _) = _; rw [h0, h1]; rfl]
          exact lv_ifnonnull hx hb hd hs K2
    · cases h
  case if_acmp cd off =>
    cases hln _ rfl
    have inj : ∀ (ad : eg_A) (H : Heap) (locs : List Loc) (x y : Nat × Nat), eg_Inv X lv D A s ad σ H locs → eg_lvV lv σ (.inr x) → eg_lvV lv σ (.inr y) → x.1 = 50 → y.1 = 50 → (some (ad.1 x.1 x.2) = some (ad.1 y.1 y.2) ↔ eg_same x y = true) := by
      intro ad H locs x y hI hx' hy' ex ey
      have lx := eg_live_kc hx' (by rw [ex]; decide)
      have ly := eg_live_kc hy' (by rw [ey]; decide)
      constructor
      · intro e9
        have := hI.2.2.1 _ _ _ _ lx ly (Or.inr ⟨ex, ey⟩) (Option.some.inj e9)
        unfold eg_same
        rw [this.2]
        exact Nat.beq_refl _
      · intro e9
        have h2 : x.2 = y.2 := Nat.eq_of_beq_eq_true e9
        rw [ex, ey, h2]
    cases cd
    · obtain ⟨x, y, r, rfl, ey, ex, rfl, rfl, rfl, rfl, rfl⟩ := eg_ba_spec (f := eg_same) h
      refine eg_Nx.same (fun ad H locs LS hS hI hl hv K => ?_)
      have K2 := K LS hl hv.drop.drop
      have hij := inj ad H locs x y hI hv.drop.top hv.top ex ey
      show W p l e R s m args below meth c H locs _ _ Q (F0 m pc LS (eg_cv ad (.inr y) :: eg_cv ad (.inr x) :: List.map (eg_cv ad) _))
      rw [eg_cv_ref (by omega), eg_cv_ref (by omega)]
      refine lv_acmp_eq (rx := some (ad.1 x.1 x.2)) (ry := some (ad.1 y.1 y.2)) hx hb hd hs (fun z => ?_) (fun z => ?_)
      · rw [hij.mp z] at K2; exact K2
      · rw [Bool.eq_false_iff.mpr (fun z2 => z (hij.mpr z2))] at K2; exact K2
    · obtain ⟨x, y, r, rfl, ey, ex, rfl, rfl, rfl, rfl, rfl⟩ := eg_ba_spec (f := fun x y => !(eg_same x y)) h
      refine eg_Nx.same (fun ad H locs LS hS hI hl hv K => ?_)
      have K2 := K LS hl hv.drop.drop
      have hij := inj ad H locs x y hI hv.drop.top hv.top ex ey
      show W p l e R s m args below meth c H locs _ _ Q (F0 m pc LS (eg_cv ad (.inr y) :: eg_cv ad (.inr x) :: List.map (eg_cv ad) _))
      rw [eg_cv_ref (by omega), eg_cv_ref (by omega)]
      refine lv_acmp_ne (rx := some (ad.1 x.1 x.2)) (ry := some (ad.1 y.1 y.2)) hx hb hd hs (fun z => ?_) (fun z => ?_)
      · rw [Bool.eq_false_iff.mpr (fun z2 => z (hij.mpr z2))] at K2; exact K2
      · rw [hij.mp z] at K2; exact K2
  case goto off => cases hln _ rfl; cases h; exact eg_Nx.same (fun ad H locs LS hS hI hl hv K => lv_goto hx hb hd hs (K LS hl hv))
  case tableswitch d lo hi offs =>
    replace h : eg_sw (eg_tsw pc d lo hi offs) σ u ls st = some (true, .inl (pc2, σ2, u2, ls2, st2)) := h
    unfold eg_sw at h
    split at h
    · rename_i x r
      cases h
      refine eg_Nx.same (fun ad H locs LS hS hI hl hv K => ?_)
      have K2 := K LS hl hv.drop
      obtain ⟨h1, h2, h3⟩ := hs
      unfold eg_tsw at K2
      by_cases hc : x.toInt < lo ∨ hi < x.toInt
      · rw [if_pos hc] at K2
        exact lv_tableOut hx hb hd hc (by omega) K2
      · rw [if_neg hc] at K2
        have hlt : (x.toInt - lo).toNat < offs.size := by omega
        obtain ⟨off, ho⟩ : ∃ off, offs[(x.toInt - lo).toNat]? = some off := ⟨_, Array.getElem?_eq_getElem hlt⟩
        rw [ho] at K2
        have hm : off ∈ offs.toList := List.mem_of_getElem? (by rw [Array.getElem?_toList]; exact ho)
        have h0 : 0 ≤ (pc : Int) + off := by simpa using List.all_eq_true.mp h3 off hm
        exact lv_tableIn hx hb hd (fun z => hc (Or.inl z)) (fun z => hc (Or.inr z)) ho (by show (pc : Int) + off = (((pc : Int) + off).toNat : Int); omega) K2
    · cases h
  case lookupswitch d ps =>
    replace h : eg_sw (eg_lsw pc d ps) σ u ls st = some (true, .inl (pc2, σ2, u2, ls2, st2)) := h
    unfold eg_sw at h
    split at h
    · rename_i x r
      cases h
      refine eg_Nx.same (fun ad H locs LS hS hI hl hv K => ?_)
      have K2 := K LS hl hv.drop
      obtain ⟨h1, h2, h3⟩ := hs
      have h0 : ∀ L : List (Int × Int), (∀ q ∈ L, 0 ≤ (pc : Int) + q.2) → 0 ≤ (pc : Int) + Op.lookupswitch.offset L d x.toInt := by
        intro L
        induction L with
        | nil => intro _; exact h2
        | cons q L ih =>
          intro hL
          rw [Op.lookupswitch.offset_cons]
          split
          · exact hL q List.mem_cons_self
          · exact ih (fun q hq => hL q (List.mem_cons_of_mem _ hq))
      have h9 := h0 ps.toList (fun q hq => by simpa using List.all_eq_true.mp h3 q hq)
      exact lv_lookup hx hb hd h1 rfl (by show _ = (((pc : Int) + Op.lookupswitch.offset ps.toList d x.toInt).toNat : Int); omega) K2
    · cases h
  case getfield idx => cases hln _ rfl; exact eg_nx_gf hC hd hs h
  case putfield idx => cases hln _ rfl; exact eg_nx_pf hLw hC hd hs.1 hs.2.1 hs.2.2.1 hs.2.2.2 h
  case getstatic idx => cases hln _ rfl; cases h; exact eg_nx_gs hC hd hs ((hLs σ).1 a hs.1)
  case iaload => cases hln _ rfl; exact eg_nx_al (by decide) (by decide) (fun H locs LS a9 cell k x v rest hk c1 c2 c3 c4 c5 K => W.iald hx hb c1 (by rw [(pm_at_of k).1 hk] at c2; exact c2) c3 c4 c5 rfl rfl hd K) h
  case caload => cases hln _ rfl; exact eg_nx_al (by decide) (by decide) (fun H locs LS a9 cell k x v rest hk c1 c2 c3 c4 c5 K => W.cald hx hb c1 (by rw [(pm_at_of k).2.2.1 hk] at c2; exact c2) c3 c4 c5 rfl rfl hd K) h
  case baload =>
    cases hln _ rfl
    rcases hs with rfl | rfl
    · exact eg_nx_al (by decide) (by decide) (fun H locs LS a9 cell k x v rest hk c1 c2 c3 c4 c5 K => W.bald hx hb c1 (by rw [(pm_at_of k).2.1 hk] at c2; exact c2) c3 c4 c5 rfl rfl hd K) h
    · exact eg_nx_al (by decide) (by decide) (fun H locs LS a9 cell k x v rest hk c1 c2 c3 c4 c5 K => W.zald hx hb c1 (by rw [(pm_at_of k).2.2.2.1 hk] at c2; exact c2) c3 c4 c5 rfl rfl hd K) h
  case aaload => cases hln _ rfl; exact eg_nx_ar hC hd h
  case arraylength => cases hln _ rfl; exact eg_nx_len hC hd h
  case iastore => cases hln _ rfl; exact eg_nx_as hLw (by decide) (by decide) (fun H locs LS a9 cell k j x rest hk c1 c2 c3 c4 K => W.iast hx hb c1 (by rw [(pm_at_of k).1 hk] at c2; exact c2) c3 c4 rfl rfl hd K) h
  case bastore =>
    cases hln _ rfl
    rcases hs with rfl | rfl
    · exact eg_nx_as hLw (by decide) (by decide) (fun H locs LS a9 cell k j x rest hk c1 c2 c3 c4 K => W.bast hx hb c1 (by rw [(pm_at_of k).2.1 hk] at c2; exact c2) c3 c4 rfl rfl hd K) h
    · exact eg_nx_as hLw (by decide) (by decide) (fun H locs LS a9 cell k j x rest hk c1 c2 c3 c4 K => W.zast hx hb c1 (by rw [(pm_at_of k).2.2.2.1 hk] at c2; exact c2) c3 c4 rfl rfl hd K) h
  case aastore => cases hln _ rfl; exact eg_nx_ast hLw hC hd hs.1 hs.2 h
  case new idx => cases hln _ rfl; exact eg_nx_new hLs hLn hC hRm hd hs.1 hs.2.1 hs.2.2.1 hs.2.2.2.1 hs.2.2.2.2 h
  case newarray at_ => cases hln _ rfl; exact eg_nx_newa hLs hLn hC hRm hd hs.1 hs.2.1 hs.2.2 h
  case anewarray idx => cases hln _ rfl; exact eg_nx_anew (C := "") hLs hLn hC hRm hd hs.1 hs.2 h
  case invokestatic idx =>
    cases hln _ rfl
    rcases hs with ⟨rfl, w1, w2, w3, w4, r1, r2⟩ | ⟨rfl, w1, w2, w3, w4, r1, r2⟩ | ⟨rfl, w1, w2, w3, w4, r1, r2⟩ | ⟨hne, -⟩
    · exact eg_nx_cpy hLc hC hd w1 w2 w3 w4 ⟨by rw [hRf.1]; exact r1, by rw [hRf.2]; exact r2⟩ h
    · exact eg_nx_mm h (fun ad H locs LS x y r hz hl hrl K hS => va_mmax hx hb (by rw [hml]; exact hl.1.symm) hown (hS.2.1.use w1 rfl) (hS.2.1.use w2 rfl) (hS.2.1.use w3 rfl) (hS.2.1.use w4 rfl) (by rw [hRf.1]; exact r1) (by rw [eg_cats hz, hRf.2]; omega) hu.1 hu.2 hd K)
    · exact eg_nx_mm h (fun ad H locs LS x y r hz hl hrl K hS => va_mmin hx hb (by rw [hml]; exact hl.1.symm) hown (hS.2.1.use w1 rfl) (hS.2.1.use w2 rfl) (hS.2.1.use w3 rfl) (hS.2.1.use w4 rfl) (by rw [hRf.1]; exact r1) (by rw [eg_cats hz, hRf.2]; omega) hu.1 hu.2 hd K)
    · replace h : (bif Nat.beq b 99 then eg_cpy X pg_T (pc + 3) σ u ls st else bif Nat.beq b 98 then eg_mm (fun x y => if x < y then y else x) (pc + 3) σ u ls st else bif Nat.beq b 97 then eg_mm (fun x y => if y < x then y else x) (pc + 3) σ u ls st else eg_call pg_T a 0 mi (pc + 3) u st) = some (true, .inl (pc2, σ2, u2, ls2, st2)) := h
      rw [eg_beq_ff hne.1, eg_beq_ff hne.2.1, eg_beq_ff hne.2.2] at h
      exact (eg_call_inl h).elim
  case invokespecial idx =>
    cases hln _ rfl
    rcases hs with ⟨rfl, w1, w2, w3, r1, r2⟩ | ⟨hne, -⟩
    · exact eg_nx_oi hC hd w1 w2 w3 ⟨by rw [hRf.1]; exact r1, by rw [hRf.2]; exact r2⟩ h
    · replace h : (bif Nat.beq b 99 then eg_oi pg_T (pc + 3) σ u ls st else eg_call pg_T a b mi (pc + 3) u st) = some (true, .inl (pc2, σ2, u2, ls2, st2)) := h
      rw [show Nat.beq b 99 = false by cases hb9 : Nat.beq b 99 with | false => rfl | true => exact absurd (Nat.eq_of_beq_eq_true hb9) hne] at h
      exact (eg_call_inl h).elim
  case invokevirtual idx =>
    exact (eg_call_inl h).elim
  case ireturn => exact absurd h eg_ret_inl.1
  case areturn => exact absurd h (eg_ret_inl (a := 0)).2.1
  case return_ => exact absurd h (eg_ret_inl (a := 0)).2.2
  all_goals cases h
end EGX
end
section
/-! WHAT A STEP'S RESULT LOOKS LIKE -/
section EGSH
variable {S : Type}
def eg_Ok (X : eg_X S) (mi : Nat) (σ : S) (u : Nat × Nat) (g : Bool) (c : eg_R S) : Prop := ∃ pc2 σ2 u2 ls2 st2, c = .inl (pc2, σ2, u2, ls2, st2) ∧ (σ2 = σ ∨ (∃ k i j v, X.2.2.1 σ k i j v = some σ2) ∨ (∃ k n i, X.2.2.2.1 σ k n = some (σ2, i)) ∨ ∃ q sp d dp n, X.2.2.2.2 σ q sp d dp n = some σ2) ∧ (u2 = u ∨ (g = true → u2.1 ≤ (pg_mt mi).2.1 ∧ u2.2 ≤ (pg_mt mi).2.2))
variable {X : eg_X S} {mi : Nat} {σ : S} {u : Nat × Nat} {g : Bool} {c : eg_R S} {pc a b t i : Nat} {ls : eg_L} {st : List eg_V}
theorem eg_Ok.same {pc2 : Nat} {ls2 : eg_L} {st2 : List eg_V} : eg_Ok X mi σ u g (.inl (pc2, σ, u, ls2, st2)) := ⟨_, _, _, _, _, rfl, Or.inl rfl, Or.inl rfl⟩
theorem eg_ok_stk {o : Option (List eg_V)} (h : eg_stk o pc σ u ls = some (g, c)) : eg_Ok X mi σ u g c := by
  cases o with
  | none => cases h
  | some w => cases h; exact .same
theorem eg_ok_psh {o : Option eg_V} (h : eg_psh o pc σ u ls st = some (g, c)) : eg_Ok X mi σ u g c := by
  cases o with
  | none => cases h
  | some w => cases h; exact .same
theorem eg_ok_sti (h : eg_sti i pc σ u ls st = some (g, c)) : eg_Ok X mi σ u g c := by
  unfold eg_sti at h
  split at h
  · cases h; exact .same
  · cases h
theorem eg_ok_str (h : eg_str i pc σ u ls st = some (g, c)) : eg_Ok X mi σ u g c := by
  unfold eg_str at h
  split at h
  · cases h; exact .same
  · cases h
theorem eg_ok_inc {n : Int} (h : eg_inc i n pc σ u ls st = some (g, c)) : eg_Ok X mi σ u g c := by
  unfold eg_inc at h
  split at h
  · cases h; exact .same
  · cases h
theorem eg_ok_b1 {f : Int32 → Bool} (h : eg_b1 f t pc σ u ls st = some (g, c)) : eg_Ok X mi σ u g c := by
  unfold eg_b1 at h
  split at h
  · cases h; exact .same
  · cases h
theorem eg_ok_b2 {f : Int32 → Int32 → Bool} (h : eg_b2 f t pc σ u ls st = some (g, c)) : eg_Ok X mi σ u g c := by
  unfold eg_b2 at h
  split at h
  · cases h; exact .same
  · cases h
theorem eg_ok_bn {f : Nat × Nat → Bool} (h : eg_bn f t pc σ u ls st = some (g, c)) : eg_Ok X mi σ u g c := by
  unfold eg_bn at h
  split at h
  · simp only [cond_eq_ite] at h
    split at h
    · cases h
    · cases h; exact .same
  · cases h
theorem eg_ok_ba {f : Nat × Nat → Nat × Nat → Bool} (h : eg_ba f t pc σ u ls st = some (g, c)) : eg_Ok X mi σ u g c := by
  unfold eg_ba at h
  split at h
  · simp only [cond_eq_ite] at h
    split at h
    · cases h; exact .same
    · cases h
  · cases h
theorem eg_ok_dv {f : Int32 → Int32 → Int32} (h : eg_dv f pc σ u ls st = some (g, c)) : eg_Ok X mi σ u g c := by
  unfold eg_dv at h
  split at h
  · cases h; exact .same
  · cases h
theorem eg_ok_mm {f : Int32 → Int32 → Int32} (h : eg_mm f pc σ u ls st = some (g, c)) : eg_Ok X mi σ u g c := by
  unfold eg_mm at h
  split at h
  · simp only [cond_eq_ite] at h
    split at h
    · cases h; exact .same
    · cases h
  · cases h
theorem eg_ok_sw {f : Int32 → Nat} (h : eg_sw f σ u ls st = some (g, c)) : eg_Ok X mi σ u g c := by
  unfold eg_sw at h
  split at h
  · cases h; exact .same
  · cases h
theorem eg_ok_oi {T : eg_T} (h : eg_oi T pc σ u ls st = some (g, c)) : eg_Ok X mi σ u g c := by
  unfold eg_oi at h
  split at h
  · simp only [cond_eq_ite] at h
    split at h
    · cases h; exact .same
    · cases h
  · cases h
theorem eg_ok_gf {T : eg_T} (h : eg_gf X T a b pc σ u ls st = some (g, c)) : eg_Ok X mi σ u g c := by
  unfold eg_gf at h
  split at h
  · simp only [cond_eq_ite] at h
    split at h
    · cases h; exact .same
    · cases h
  · cases h
theorem eg_ok_al {T : eg_T} (h : eg_al X T t pc σ u ls st = some (g, c)) : eg_Ok X mi σ u g c := by
  unfold eg_al at h
  split at h
  · simp only [cond_eq_ite] at h
    split at h
    · cases h; exact .same
    · cases h
  · cases h
theorem eg_ok_ar {T : eg_T} (h : eg_ar X T pc σ u ls st = some (g, c)) : eg_Ok X mi σ u g c := by
  unfold eg_ar at h
  split at h
  · simp only [cond_eq_ite] at h
    split at h
    · cases h; exact .same
    · cases h
  · cases h
theorem eg_ok_len {T : eg_T} (h : eg_len X T pc σ u ls st = some (g, c)) : eg_Ok X mi σ u g c := by
  unfold eg_len at h
  split at h
  · simp only [cond_eq_ite] at h
    split at h
    · cases h
    · cases h; exact .same
  · cases h
theorem eg_ok_pf {T : eg_T} (h : eg_pf X T a b pc σ u ls st = some (g, c)) : eg_Ok X mi σ u g c := by
  unfold eg_pf at h
  split at h
  · simp only [cond_eq_ite] at h
    split at h
    · split at h
      · rename_i hw
        cases h
        exact ⟨_, _, _, _, _, rfl, Or.inr (Or.inl ⟨_, _, _, _, hw⟩), Or.inl rfl⟩
      · cases h
    · cases h
  · cases h
theorem eg_ok_as {T : eg_T} {f : Int32 → Int32} (h : eg_as X T t f pc σ u ls st = some (g, c)) : eg_Ok X mi σ u g c := by
  unfold eg_as at h
  split at h
  · simp only [cond_eq_ite] at h
    split at h
    · split at h
      · rename_i hw
        cases h
        exact ⟨_, _, _, _, _, rfl, Or.inr (Or.inl ⟨_, _, _, _, hw⟩), Or.inl rfl⟩
      · cases h
    · cases h
  · cases h
theorem eg_ok_ast {T : eg_T} (h : eg_ast X T a b pc σ u ls st = some (g, c)) : eg_Ok X mi σ u g c := by
  unfold eg_ast at h
  split at h
  · simp only [cond_eq_ite] at h
    split at h
    · split at h
      · rename_i hw
        cases h
        exact ⟨_, _, _, _, _, rfl, Or.inr (Or.inl ⟨_, _, _, _, hw⟩), Or.inl rfl⟩
      · cases h
    · cases h
  · cases h
theorem eg_ok_cpy {T : eg_T} (h : eg_cpy X T pc σ u ls st = some (g, c)) : eg_Ok X mi σ u g c := by
  unfold eg_cpy at h
  split at h
  · simp only [cond_eq_ite] at h
    split at h
    · split at h
      · rename_i hw
        cases h
        exact ⟨_, _, _, _, _, rfl, Or.inr (Or.inr (Or.inr ⟨_, _, _, _, _, hw⟩)), Or.inl rfl⟩
      · cases h
    · cases h
  · cases h
theorem eg_ok_new (h : eg_new X pg_T a mi pc σ u ls st = some (g, c)) : eg_Ok X mi σ u g c := by
  unfold eg_new at h
  split at h
  · rename_i hw
    cases h
    refine ⟨_, _, _, _, _, rfl, Or.inr (Or.inr (Or.inl ⟨_, _, _, hw⟩)), Or.inr (fun hg => ?_)⟩
    simp only [Bool.and_eq_true] at hg
    exact ⟨Nat.le_of_ble_eq_true hg.1, Nat.le_of_ble_eq_true hg.2⟩
  · cases h
theorem eg_ok_newa (h : eg_newa X pg_T a mi pc σ u ls st = some (g, c)) : eg_Ok X mi σ u g c := by
  unfold eg_newa at h
  split at h
  · split at h
    · rename_i hw
      cases h
      refine ⟨_, _, _, _, _, rfl, Or.inr (Or.inr (Or.inl ⟨_, _, _, hw⟩)), Or.inr (fun hg => ?_)⟩
      simp only [Bool.and_eq_true] at hg
      exact ⟨Nat.le_of_ble_eq_true hg.2.2.1, Nat.le_of_ble_eq_true hg.2.2.2⟩
    · cases h
  · cases h
/-- a step goes on, or is a call, or an end -/
theorem eg_do_shape {I : Jvm.ClassFile.Instr} (h : eg_do X pg_T I a b mi pc σ u ls st = some (g, c)) : eg_Ok X mi σ u g c ∨
    (∃ idx, ((I = .invokevirtual idx) ∨ (I = .invokespecial idx ∧ b ≠ 99)) ∧ (eg_call pg_T a b mi (pc + 3) u st : eg_O S) = some (g, c)) ∨ (∃ idx, I = .invokestatic idx ∧ (b ≠ 99 ∧ b ≠ 98 ∧ b ≠ 97) ∧ (eg_call pg_T a 0 mi (pc + 3) u st : eg_O S) = some (g, c)) ∨
    (I = .ireturn ∧ (eg_ri a st : eg_O S) = some (g, c)) ∨ (I = .areturn ∧ (eg_ra st : eg_O S) = some (g, c)) ∨ (I = .return_ ∧ (eg_rv st : eg_O S) = some (g, c)) := by
  cases I
  case iconst => cases h; exact Or.inl .same
  case bipush => cases h; exact Or.inl .same
  case sipush => cases h; exact Or.inl .same
  case ldc => cases h; exact Or.inl .same
  case aconst_null => cases h; exact Or.inl .same
  case goto => cases h; exact Or.inl .same
  case getstatic => cases h; exact Or.inl .same
  case iload_n => exact Or.inl (eg_ok_psh h)
  case iload => exact Or.inl (eg_ok_psh h)
  case aload_n => exact Or.inl (eg_ok_psh h)
  case aload => exact Or.inl (eg_ok_psh h)
  case istore_n => exact Or.inl (eg_ok_sti h)
  case istore => exact Or.inl (eg_ok_sti h)
  case astore_n => exact Or.inl (eg_ok_str h)
  case astore => exact Or.inl (eg_ok_str h)
  case iinc => exact Or.inl (eg_ok_inc h)
  case idiv => exact Or.inl (eg_ok_dv h)
  case irem => exact Or.inl (eg_ok_dv h)
  case ifCond cd _ => cases cd <;> exact Or.inl (eg_ok_b1 h)
  case if_icmp cd _ => cases cd <;> exact Or.inl (eg_ok_b2 h)
  case if_acmp cd _ => cases cd <;> exact Or.inl (eg_ok_ba h)
  case ifnull => exact Or.inl (eg_ok_bn h)
  case ifnonnull => exact Or.inl (eg_ok_bn h)
  case tableswitch => exact Or.inl (eg_ok_sw h)
  case lookupswitch => exact Or.inl (eg_ok_sw h)
  case getfield => exact Or.inl (eg_ok_gf h)
  case putfield => exact Or.inl (eg_ok_pf h)
  case iaload => exact Or.inl (eg_ok_al h)
  case baload => exact Or.inl (eg_ok_al h)
  case caload => exact Or.inl (eg_ok_al h)
  case aaload => exact Or.inl (eg_ok_ar h)
  case arraylength => exact Or.inl (eg_ok_len h)
  case iastore => exact Or.inl (eg_ok_as h)
  case bastore =>
    replace h : (bif Nat.beq a 4 then eg_as X pg_T 4 (fun x => x &&& 1) (pc + 1) σ u ls st else eg_as X pg_T 2 (fun x => x.toInt8.toInt32) (pc + 1) σ u ls st) = some (g, c) := h
    cases ha : Nat.beq a 4 with
    | true => rw [ha] at h; exact Or.inl (eg_ok_as h)
    | false => rw [ha] at h; exact Or.inl (eg_ok_as h)
  case aastore => exact Or.inl (eg_ok_ast h)
  case new => exact Or.inl (eg_ok_new h)
  case newarray => exact Or.inl (eg_ok_newa h)
  case anewarray => exact Or.inl (eg_ok_newa h)
  case invokevirtual idx => exact Or.inr (Or.inl ⟨idx, Or.inl rfl, h⟩)
  case invokespecial idx =>
    replace h : (bif Nat.beq b 99 then eg_oi pg_T (pc + 3) σ u ls st else eg_call pg_T a b mi (pc + 3) u st) = some (g, c) := h
    cases hb : Nat.beq b 99 with
    | true => rw [hb] at h; exact Or.inl (eg_ok_oi h)
    | false =>
      rw [hb] at h
      exact Or.inr (Or.inl ⟨idx, Or.inr ⟨rfl, fun e => by rw [e] at hb; cases hb⟩, h⟩)
  case invokestatic idx =>
    replace h : (bif Nat.beq b 99 then eg_cpy X pg_T (pc + 3) σ u ls st else bif Nat.beq b 98 then eg_mm (fun x y => if x < y then y else x) (pc + 3) σ u ls st else bif Nat.beq b 97 then eg_mm (fun x y => if y < x then y else x) (pc + 3) σ u ls st else eg_call pg_T a 0 mi (pc + 3) u st) = some (g, c) := h
    cases hb : Nat.beq b 99 with
    | true => rw [hb] at h; exact Or.inl (eg_ok_cpy h)
    | false =>
      rw [hb] at h
      cases hb2 : Nat.beq b 98 with
      | true => rw [hb2] at h; exact Or.inl (eg_ok_mm h)
      | false =>
        rw [hb2] at h
        cases hb3 : Nat.beq b 97 with
        | true => rw [hb3] at h; exact Or.inl (eg_ok_mm h)
        | false =>
          rw [hb3] at h
          exact Or.inr (Or.inr (Or.inl ⟨idx, rfl, ⟨(fun e => by rw [e] at hb; cases hb), (fun e => by rw [e] at hb2; cases hb2), (fun e => by rw [e] at hb3; cases hb3)⟩, h⟩))
  case ireturn => exact Or.inr (Or.inr (Or.inr (Or.inl ⟨rfl, h⟩)))
  case areturn => exact Or.inr (Or.inr (Or.inr (Or.inr (Or.inl ⟨rfl, h⟩))))
  case return_ => exact Or.inr (Or.inr (Or.inr (Or.inr (Or.inr ⟨rfl, h⟩))))
  all_goals first | (cases h; done) | exact Or.inl (eg_ok_stk h)
end EGSH
end
section
/-! CALLS: the callee's contract out of its own run, and back -/
section EGC
variable {S : Type} (X : eg_X S) (lv : S → Nat → Nat → Prop) (D : va_G) (A : Nat → Prop)
def eg_Pc (ad : eg_A) (σ : S) (av : List eg_V) : Array Value → State → Prop := va_Pc (av.map (eg_cv ad)) (fun U => eg_Sta D A U ad ∧ eg_Inv X lv D A U ad σ U.heap [] ∧ ∀ v ∈ av, eg_lvV lv σ v)
def eg_Qc (ad : eg_A) (σ σ2 : S) (r : Option eg_V) : Array Value → State → Outcome → State → Prop := fun _ st oc t => ∃ ad2 : eg_A, oc = .returned (r.map (eg_cv ad2)) ∧ (∀ k i, lv σ k i → ad2.1 k i = ad.1 k i) ∧ ad2.2 = ad.2 ∧ eg_Inv X lv D A t ad2 σ2 t.heap [] ∧ (∀ v, r = some v → eg_lvV lv σ2 v) ∧ va_F A st t
/-- where a method ends -/
def eg_rt (mi pcr : Nat) (r : Option eg_V) : Prop := (r = none ∧ pm_r mi = none ∧ decode (pm_b mi) pcr = .ok (.return_, 1)) ∨ (∃ x ty, r = some (.inl x) ∧ pm_r mi = some ty ∧ narrow ty (.int x) = .int x ∧ decode (pm_b mi) pcr = .ok (.ireturn, 1)) ∨ (∃ q rt, r = some (.inr q) ∧ pm_r mi = some rt ∧ ((∃ n, rt = .object n) ∨ ∃ t, rt = .array t) ∧ decode (pm_b mi) pcr = .ok (.areturn, 1))
/-- n steps of the engine: the machine does them -/
def eg_Snd (l : Launch) (n : Nat) : Prop := ∀ (mi pc : Nat) (σ : S) (u : Nat × Nat) (ls : eg_L) (st : List eg_V) (σ2 : S) (r : Option eg_V), eg_ip X pg_T n mi pc σ u ls st = some (σ2, r) → u.1 ≤ (pg_mt mi).2.1 → u.2 ≤ (pg_mt mi).2.2 →
  ∀ (p : Program) (e : Env) (s : State) (m : MethodId) (args : Array Value) (below : List Frame) (meth : Method) (c : Code) (Q : State → Prop), eg_Cx mi p s m meth c →
  ∀ (ad : eg_A) (H : Heap) (locs : List Loc) (LS : Array Slot), eg_Sta D A s ad → eg_Inv X lv D A s ad σ H locs → lv_has LS (pm_l mi) (eg_hl ad ls) → eg_LV lv σ ls st →
  (∀ (ad2 : eg_A) (H2 : Heap) (locs2 : List Loc) (LS2 : Array Slot) (u2 : Nat × Nat) (pcr : Nat), (∀ k i, lv σ k i → ad2.1 k i = ad.1 k i) → ad2.2 = ad.2 → eg_Sta D A s ad2 → eg_Inv X lv D A s ad2 σ2 H2 locs2 → (∀ v, r = some v → eg_lvV lv σ2 v) → u2.1 ≤ (pg_mt mi).2.1 → u2.2 ≤ (pg_mt mi).2.2 → eg_rt mi pcr r → W p l e (pm_R mi) s m args below meth c H2 locs2 u2.1 u2.2 Q (F0 m pcr LS2 (r.toList.map (eg_cv ad2)))) →
  W p l e (pm_R mi) s m args below meth c H locs u.1 u.2 Q (F0 m pc LS (st.map (eg_cv ad)))
variable {X lv D A}
variable {p : Program} {l : Launch} {e : Env} {R : Room} {s U : State} {m : MethodId} {args : Array Value} {below : List Frame} {meth : Method} {c : Code} {Q : State → Prop} {mi pc pc2 : Nat} {σ σ2 : S} {u u2 : Nat × Nat} {ls ls2 : eg_L} {st st2 : List eg_V} {ad ad2 : eg_A} {H H2 : Heap} {locs locs2 : List Loc}
theorem eg_fld.moved {b j a : Nat} {v : Value} (hvm : s.vm.Alike U.vm) (h : eg_fld s b j a v H) : eg_fld U b j a v H := by
  obtain ⟨cf, kf, fi, f, cell, f1, f2⟩ := h
  obtain ⟨k', hi', -⟩ := State.fieldFound?_setVm hvm f1
  exact ⟨cf, k', fi, f, cell, hi', f2⟩
theorem eg_mem.moved {k i : Nat} (hvm : s.vm.Alike U.vm) (h : eg_mem X D s ad σ k i H) : eg_mem X D U ad σ k i H := by
  unfold eg_mem at h ⊢
  split
  · rename_i h0
    rw [if_pos h0] at h
    split
    · rename_i h5
      rw [if_pos h5] at h
      exact h
    · rename_i h5
      rw [if_neg h5] at h
      obtain ⟨⟨cell, c1, c2, c3⟩, h2⟩ := h
      exact ⟨⟨cell, c1, c2, by rw [hvm.findClass]; exact c3⟩, fun j hj => (h2 j hj).moved hvm⟩
  · rename_i h0
    rw [if_neg h0] at h
    obtain ⟨⟨cell, c1, c2, c3⟩, h2⟩ := h
    refine ⟨⟨cell, c1, State.isArrayOf_alike hvm c2, c3⟩, fun h8 => ?_⟩
    obtain ⟨cell2, d1, d2⟩ := h2 h8
    exact ⟨cell2, d1, d2.moved hvm⟩
theorem eg_Inv.enter (hvm : s.vm.Alike U.vm) (hU : U.heap = H) (h : eg_Inv X lv D A s ad σ H locs) : eg_Inv X lv D A U ad σ U.heap [] :=
  ⟨fun k i hl => ⟨(h.1 k i hl).1, by rw [hU]; exact (h.1 k i hl).2.moved hvm⟩, h.2.1, h.2.2.1, va_S.rf, h.2.2.2.2⟩
theorem eg_Inv.back (hvm : s.vm.Alike U.vm) (hU : U.heap = H) (hS : va_S A s.heap H locs) (h : eg_Inv X lv D A U ad σ U.heap []) : eg_Inv X lv D A s ad σ H locs :=
  ⟨fun k i hl => ⟨(h.1 k i hl).1, by rw [← hU]; exact (h.1 k i hl).2.moved hvm.symm⟩, h.2.1, h.2.2.1, hS, h.2.2.2.2⟩
theorem eg_Sta.enter (hW : s.WarmedH U.vm) (hU : U.heap = H) (hS0 : va_S A s.heap H locs) (h : eg_Sta D A s ad) : eg_Sta D A U ad := by
  obtain ⟨a1, a2, a3, a4, a5, a6, a7⟩ := h
  exact ⟨va_K.moved hW.alike a1, a2.moved hW, fun a ha => by rw [hU]; exact va_Z.moved hW.alike ((a3 a ha).kept hS0.2.1), fun q hq => a4 q (Nat.le_trans hS0.1 (by rw [← hU]; exact hq)), a5, a6.warm hW, va_AO.moved hW.alike a7⟩
theorem eg_Pc.blind {av : List eg_V} : FrameBlind (eg_Pc X lv D A ad σ av) := by
  intro a U g mk h
  obtain ⟨h1, h2, h3, h4⟩ := h
  exact ⟨h1, h2.enter (U := U.calling g mk a) (H := U.heap) (locs := []) (State.WarmedH.refl U) rfl va_S.rf, h3.enter (U := U.calling g mk a) (Vm.Alike.refl U.vm) rfl, h4⟩
theorem eg_Pc.of {av : List eg_V} (hS : eg_Sta D A s ad) (hI : eg_Inv X lv D A s ad σ H locs) (hv : ∀ v ∈ av, eg_lvV lv σ v) (hU : U.heap = H) (hW : s.WarmedH U.vm) : eg_Pc X lv D A ad σ av (av.map (eg_cv ad)).toArray U :=
  ⟨rfl, hS.enter hW hU hI.2.2.2.1, hI.enter hW.alike hU, hv⟩
theorem eg_sl_len (hz : eg_zk ad) : ∀ av : List eg_V, (lg_sl (av.map (eg_cv ad))).length = av.length
  | [] => rfl
  | v :: l => by
    have ih := eg_sl_len hz l
    unfold lg_sl at ih ⊢
    rw [List.map_cons, List.flatMap_cons, List.length_append, ih, if_neg (by rw [eg_cat hz]; decide)]
    simp; omega
/-- the callee's contract -/
theorem eg_met {n j : Nat} {av : List eg_V} {r : Option eg_V} (IH : eg_Snd X lv D A l n) (h : eg_ip X pg_T n j 0 σ (0, 0) (eg_ent 0 av) [] = some (σ2, r)) (hpl : plainName (pm_y j).cls = true) (hlen : av.length ≤ pm_l j) (hz : eg_zk ad) :
    Met l (pm_y j) [Jvm.Cond.code (pm_y j) (pm_b j) (pm_l j) (pm_r j)] (pm_R j) (eg_Pc X lv D A ad σ av) (eg_Qc X lv D A ad σ σ2 r) (pg_mt j).2.1 (pg_mt j).2.2 A := by
  refine Met.ofW (cc := pm_b j) (maxL := pm_l j) (ret := pm_r j) hpl rfl ?_
  intro p e s m args below meth c s₁ B hml hv
  obtain ⟨rfl, hSt, hIn, hav⟩ := hv
  have hlocks := B.notSynchronized
  have hCx : eg_Cx j p s m meth c := ⟨B.exec, B.bytes, B.returns, hml, findClass_of_methodNamed B.named, B.notSynchronized, (name_of_methodNamed B.named B.method).1⟩
  have hl := lv_entry (av.map (eg_cv ad)) (n := pm_l j) (by rw [eg_sl_len hz]; exact hlen)
  rw [lg_entry_eq]
  generalize (lg_sl (av.map (eg_cv ad)) ++ List.replicate (pm_l j - (lg_sl (av.map (eg_cv ad))).length) Slot.unset).toArray = LS at hl ⊢
  rw [eg_ent_l ad hz av 0] at hl
  have hLV : eg_LV lv σ (eg_ent 0 av) [] := by
    refine ⟨?_, fun v hv => by cases hv⟩
    have key : ∀ (l : List eg_V) (n : Nat), (∀ v ∈ l, eg_lvV lv σ v) → ∀ q ∈ eg_ent n l, eg_lvV lv σ q.2 := by
      intro l
      induction l with
      | nil => intro n _ q hq; cases hq
      | cons v l ih =>
        intro n hl q hq
        rcases List.mem_cons.mp hq with rfl | hq
        · exact hl v List.mem_cons_self
        · exact ih (n + 1) (fun w hw => hl w (List.mem_cons_of_mem _ hw)) q hq
    exact key av 0 hav
  refine IH j 0 σ (0, 0) (eg_ent 0 av) [] σ2 r h (Nat.zero_le _) (Nat.zero_le _) p e s m _ below meth c _ hCx ad s.heap [] LS hSt hIn hl hLV (fun ad2 H2 locs2 LS2 u2 pcr x1 x2 x3 x4 x5 b1 b2 hrt => ?_)
  refine W.widen b1 b2 ?_
  have post : ∀ (o : Option Value) (t : State), o = r.map (eg_cv ad2) → t.heap = H2 → s.WarmedH t.vm → eg_Qc X lv D A ad σ σ2 r (av.map (eg_cv ad)).toArray s (.returned o) t := fun o t ho ht hW => ⟨ad2, by rw [ho], x1, x2, x4.enter hW.alike ht, x5, x4.2.2.2.1.F ht⟩
  rcases hrt with ⟨rfl, h2, h3⟩ | ⟨x, ty, rfl, h2, h3, h4⟩ | ⟨q, rt, rfl, h2, h3, h4⟩
  · exact W.vret B.exec B.bytes (B.returns.trans h2) (fun t ht hW => post none t rfl ht hW) x4.2.2.2.1.2.2 h3
  · exact W.zret B.exec B.bytes (B.returns.trans h2) h3 (fun t ht hW => post _ t rfl ht hW) x4.2.2.2.1.2.2 h4
  · exact W.aret B.exec B.bytes (B.returns.trans h2) h3 (eg_cv_r (by unfold eg_zk; rw [x2]; exact hz) q) (fun t ht hW => post _ t rfl ht hW) x4.2.2.2.1.2.2 h4
/-- behind the call -/
theorem eg_call_back {mc ms cells slots : Nat} {r : Option eg_V} {a : Array Value} {rest st0 : List Value} {LS : Array Slot} (hr : va_Run p l e R s m args below meth c H locs cells slots mc ms (F0 m pc LS st0) rest (eg_Qc X lv D A ad σ σ2 r a) A) (hI : eg_Inv X lv D A s ad σ H locs)
    (K : ∀ (ad2 : eg_A) (H2 : Heap) (locs2 : List Loc), (∀ k i, lv σ k i → ad2.1 k i = ad.1 k i) → ad2.2 = ad.2 → eg_Inv X lv D A s ad2 σ2 H2 locs2 → (∀ v, r = some v → eg_lvV lv σ2 v) → W p l e R s m args below meth c H2 locs2 (cells + mc) (slots + ms) Q (F0 m (pc + 3) LS ((r.map (eg_cv ad2)).toList ++ rest))) :
    W p l e R s m args below meth c H locs cells slots Q (F0 m pc LS st0) := by
  intro T hT Y
  obtain ⟨v, st₀, t, T', L, h0, Y', hL, e1, e2, ⟨ad2, hv, x1, x2, x3, x4, hz, hk⟩, stp⟩ := hr T hT Y
  cases hv
  rw [h0] at hz hk
  have hvm : s.vm.Alike t.vm := by rw [← e2]; exact Y'.warmed.alike
  have hS := hI.2.2.2.1
  have hS2 : va_S A s.heap T'.heap (locs ++ L) := by
    refine ⟨Nat.le_trans hS.1 (by rw [e1]; exact hz), fun q h1 h2 => by rw [e1, hk q (Nat.lt_of_lt_of_le h1 hS.1) h2]; exact hS.2.1 q h1 h2, fun q hq => ?_⟩
    rcases List.mem_append.mp hq with h | h
    · exact hS.2.2 q h
    · exact hL q h
  obtain ⟨t2, a1, b1⟩ := K ad2 T'.heap (locs ++ L) x1 x2 (x3.back hvm e1.symm hS2) x4 T' rfl Y'
  exact ⟨t2, stp t2 a1, b1⟩
theorem eg_recv (hS : eg_Sta D A s ad) (hI : eg_Inv X lv D A s ad σ H locs) {k i : Nat} (hl : lv σ k i) (hk : pg_kc k ≠ 0) : ∃ cell : Cell, H[ad.1 k i]? = some cell ∧ cell.vm.isStatics = false ∧ s.vm.findClass (pm_c (pg_kc k)).1 = some cell.cls := by
  have hm := (hI.1 k i hl).2
  unfold eg_mem at hm
  rw [if_pos (pg_kc_ak k hk)] at hm
  by_cases h50 : k < 50
  · rw [if_pos h50] at hm
    obtain ⟨r, h1, cell, q1, q2, q3, q4⟩ := hm
    have hb : pg_kc k - 1 < 10 := (List.getElem?_eq_some_iff.mp h1).1
    have he : pg_kc k - 1 + 1 = pg_kc k := by omega
    have hr : r = pm_c (pg_kc k) := by
      have := (pm_cl_at _ hb).symm.trans h1
      rw [he] at this
      exact (Option.some.inj this).symm
    subst hr
    exact ⟨cell, q1, by rw [q3]; rfl, by rw [q2]; exact (hS.1.1 _ _ h1).2.1⟩
  · rw [if_neg h50] at hm
    exact hm.1
theorem eg_split {n : Nat} {x : eg_V} {tl : List eg_V} (h : st.drop n = x :: tl) : st = st.take n ++ x :: tl ∧ st.take (n + 1) = st.take n ++ [x] ∧ st.drop (n + 1) = tl ∧ n < st.length := by
  have hn : n < st.length := by
    rcases Nat.lt_or_ge n st.length with z | z
    · exact z
    · rw [List.drop_eq_nil_of_le z] at h; cases h
  have e1 : st = st.take n ++ x :: tl := by
    have := List.take_append_drop n st
    rw [h] at this
    exact this.symm
  have hx : st[n]? = some x := by
    have := congrArg (fun z => z[0]?) h
    simpa using this
  refine ⟨e1, ?_, ?_, hn⟩
  · rw [List.take_add_one, hx]; rfl
  · have := congrArg List.tail h
    simpa [List.tail_drop] using this
end EGC
end
section
/-! THE ENGINE IS RIGHT -/
section EGT
variable {S : Type} {X : eg_X S} {lv : S → Nat → Nat → Prop} {D : va_G} {A : Nat → Prop}
variable {p : Program} {l : Launch} {e : Env} {s : State} {m : MethodId} {args : Array Value} {below : List Frame} {meth : Method} {c : Code} {Q : State → Prop} {mi pc n j b idx : Nat} {σ σ1 : S} {u : Nat × Nat} {ls : eg_L} {st av : List eg_V} {ad : eg_A} {H : Heap} {locs : List Loc} {LS : Array Slot} {r1 : Option eg_V}
theorem eg_rest_ok {tl : List eg_V} {ad2 : eg_A} (hv : ∀ v ∈ tl, eg_lvV lv σ v) (h1 : ∀ k i, lv σ k i → ad2.1 k i = ad.1 k i) (h2 : ad2.2 = ad.2) : (r1.map (eg_cv ad2)).toList ++ tl.map (eg_cv ad) = (r1.toList ++ tl).map (eg_cv ad2) := by
  rw [List.map_append, eg_st_ext hv h1 h2]
  cases r1 <;> rfl
theorem eg_words {j : Nat} {nn : Nat} (hW : eg_Wd s) (hj : eg_cj mi j nn) : (∀ w ∈ [Jvm.Cond.code (pm_y j) (pm_b j) (pm_l j) (pm_r j)], ∀ (a' : Array Value) (U : State), s.WarmedH U.vm → w.before a' U = true) ∧ (∀ sig, parseMethodDescriptor (pm_y j).desc = some sig → nn = sig.parameters.length) := by
  refine ⟨fun w hw a' U hU => ?_, fun sig h => ?_⟩
  · rcases List.mem_singleton.mp hw with rfl
    exact (hW.moved hU).use hj.1 rfl
  · have h2 := hj.2.2.2.1
    rw [h] at h2
    exact (Option.some.inj h2).symm
theorem eg_call_V (IH : eg_Snd X lv D A l n) (hC : eg_Cx mi p s m meth c) (hd : decode (pm_b mi) pc = .ok (.invokevirtual idx, 3)) (hs : eg_cV mi idx j b) (hn : (pg_mt j).1 ≤ st.length) (hrc : b = 0 ∨ eg_rcv pg_T b (st.drop ((pg_mt j).1 - 1)) = true) (hg : (Nat.ble (st.length - (pg_mt j).1) 8 && (Nat.ble (u.1 + (pg_mt j).2.1) (pg_mt mi).2.1 && Nat.ble (u.2 + (pg_mt j).2.2) (pg_mt mi).2.2)) = true)
    (hip : eg_ip X pg_T n j 0 σ (0, 0) (eg_ent 0 (st.take (pg_mt j).1).reverse) [] = some (σ1, r1)) (hS : eg_Sta D A s ad) (hI : eg_Inv X lv D A s ad σ H locs) (hl : lv_has LS (pm_l mi) (eg_hl ad ls)) (hv : eg_LV lv σ ls st)
    (K : ∀ (ad2 : eg_A) (H2 : Heap) (locs2 : List Loc), (∀ k i, lv σ k i → ad2.1 k i = ad.1 k i) → ad2.2 = ad.2 → eg_Inv X lv D A s ad2 σ1 H2 locs2 → (∀ v, r1 = some v → eg_lvV lv σ1 v) → W p l e (pm_R mi) s m args below meth c H2 locs2 (u.1 + (pg_mt j).2.1) (u.2 + (pg_mt j).2.2) Q (F0 m (pc + 3) LS ((r1.toList ++ st.drop (pg_mt j).1).map (eg_cv ad2)))) :
    W p l e (pm_R mi) s m args below meth c H locs u.1 u.2 Q (F0 m pc LS (st.map (eg_cv ad))) := by
  obtain ⟨hx, hb, hret, hml, hown, hlk, hnm⟩ := hC
  obtain ⟨w1, hb0, hk1, hj, hlink⟩ := hs
  simp only [Bool.and_eq_true] at hg
  have hg1 := Nat.le_of_ble_eq_true hg.1
  have hg2 := Nat.le_of_ble_eq_true hg.2.1
  have hg3 := Nat.le_of_ble_eq_true hg.2.2
  have hrc := hrc.resolve_left hb0
  unfold eg_rcv at hrc
  split at hrc
  · rename_i q tl hdr
    have hkb : pg_kc q.1 = b := Nat.eq_of_beq_eq_true hrc
    subst hkb
    obtain ⟨e1, e2, e3, e4⟩ := eg_split hdr
    rw [← hk1] at e2 e3
    have hlq : eg_lvV lv σ (.inr q) := hv.2 _ (by rw [e1]; exact List.mem_append_right _ List.mem_cons_self)
    have hlv := eg_live_kc hlq hb0
    have hq2 := (hI.1 _ _ hlv).1
    have hav : (st.take (pg_mt j).1).reverse = .inr q :: (st.take ((pg_mt j).1 - 1)).reverse := by rw [e2]; simp
    have hlt : ∀ v ∈ (st.take (pg_mt j).1).reverse, eg_lvV lv σ v := fun v hv9 => hv.2 v (List.mem_of_mem_take (List.mem_reverse.mp hv9))
    have hz := hS.2.2.2.2.1
    have hM := eg_met (l := l) (ad := ad) IH hip hj.2.2.2.2.2.2.1 (by rw [List.length_reverse, List.length_take]; have := hj.2.2.2.2.2.2.2; omega) hz
    have hargs : ((st.take (pg_mt j).1).reverse).map (eg_cv ad) = .ref (ad.1 q.1 q.2) :: ((st.take ((pg_mt j).1 - 1)).reverse).map (eg_cv ad) := by rw [hav, List.map_cons, eg_cv_ref hq2]
    have hstk : st.map (eg_cv ad) = (((st.take ((pg_mt j).1 - 1)).reverse).map (eg_cv ad)).reverse ++ .ref (ad.1 q.1 q.2) :: (st.drop (pg_mt j).1).map (eg_cv ad) := by
      rw [← List.map_reverse, List.reverse_reverse, e3]
      conv => lhs; rw [e1]
      rw [List.map_append, List.map_cons, eg_cv_ref hq2]
    obtain ⟨hw1, hw2⟩ := eg_words hS.2.1 hj
    have hpre : PreV s H (pm_c (pg_kc q.1)).1 (ad.1 q.1 q.2) (eg_Pc X lv D A ad σ (st.take (pg_mt j).1).reverse) (((st.take ((pg_mt j).1 - 1)).reverse).map (eg_cv ad)) :=
      ⟨eg_Pc.blind, eg_recv hS hI hlv hb0, fun U hU hW => by rw [← hargs]; exact eg_Pc.of hS hI hlt hU hW⟩
    have hlen : (((st.take ((pg_mt j).1 - 1)).reverse).map (eg_cv ad)).length = (pg_mt j).1 - 1 := by
      rw [List.length_map, List.length_reverse, List.length_take]; omega
    have hroom : 2 * (F0 m pc LS (st.map (eg_cv ad))).monitorRoom + (((st.drop (pg_mt j).1).map (eg_cv ad)).map fun v => v.category).sum ≤ 8 := by
      rw [eg_cats hz, List.length_drop]; show 2 * 0 + _ ≤ _; omega
    have fin : ∀ a9, va_Run p l e (pm_R mi) s m args below meth c H locs u.1 u.2 (pg_mt j).2.1 (pg_mt j).2.2 (F0 m pc LS (st.map (eg_cv ad))) ((st.drop (pg_mt j).1).map (eg_cv ad)) (eg_Qc X lv D A ad σ σ1 r1 a9) A → W p l e (pm_R mi) s m args below meth c H locs u.1 u.2 Q (F0 m pc LS (st.map (eg_cv ad))) := fun a9 hr => eg_call_back hr hI (fun ad2 H2 locs2 x1 x2 x3 x4 => by
      have := K ad2 H2 locs2 x1 x2 x3 x4
      rw [← eg_rest_ok (r1 := r1) (tl := st.drop (pg_mt j).1) (fun v hv9 => hv.2 v (List.mem_of_mem_drop hv9)) x1 x2] at this
      exact this)
    rcases hlink with ⟨k1, k2⟩ | ⟨x, xn, xd, k1, k2, k3⟩
    · exact fin _ (va_runV (Ts := []) ⟨hx, hb, hml, hown, fun _ h => by cases h⟩ hM ⟨⟨rfl, rfl, hj.2.2.2.2.1, hj.2.2.2.2.2.1, hw1, List.mem_singleton.mpr rfl, hS.2.1.use hj.1 rfl, hS.2.1.use hj.2.1 rfl, hj.2.2.1, hw2, hS.2.1.use k1 rfl⟩, hS.2.1.use w1 rfl, hS.2.1.use k2 rfl⟩ hpre rfl hlen hl.1 hstk hroom hd ⟨hg2, hg3⟩)
    · have hyx : pm_y j = ⟨(pm_y j).cls, x.name, x.desc⟩ := by rw [xn, xd]
      exact fin _ (va_runU (Ts := []) (owner := (pm_y j).cls) ⟨hx, hb, hml, hown, fun _ h => by cases h⟩ hM ⟨⟨rfl, rfl, hj.2.2.2.2.1, hj.2.2.2.2.2.1, hw1, List.mem_singleton.mpr rfl⟩, hS.2.1.use hj.1 rfl, hS.2.1.use hj.2.1 rfl, hj.2.2.1, by rw [xd]; exact hw2, hS.2.1.use k1 rfl, hS.2.1.use k2 rfl, by rw [← hyx]; exact va_Decl.of (args := args) (hS.2.1.use w1 rfl) (hS.2.1.use hj.1 rfl), hS.2.1.use k3 rfl, hS.2.1.use w1 rfl⟩ hpre rfl hlen hl.1 hstk hroom hd ⟨hg2, hg3⟩)
  · cases hrc
theorem eg_call_I (IH : eg_Snd X lv D A l n) (hC : eg_Cx mi p s m meth c) (hd : decode (pm_b mi) pc = .ok (.invokespecial idx, 3)) (hs : eg_cI mi idx j b) (hn : (pg_mt j).1 ≤ st.length) (hrc : b = 0 ∨ eg_rcv pg_T b (st.drop ((pg_mt j).1 - 1)) = true) (hg : (Nat.ble (st.length - (pg_mt j).1) 8 && (Nat.ble (u.1 + (pg_mt j).2.1) (pg_mt mi).2.1 && Nat.ble (u.2 + (pg_mt j).2.2) (pg_mt mi).2.2)) = true)
    (hip : eg_ip X pg_T n j 0 σ (0, 0) (eg_ent 0 (st.take (pg_mt j).1).reverse) [] = some (σ1, r1)) (hS : eg_Sta D A s ad) (hI : eg_Inv X lv D A s ad σ H locs) (hl : lv_has LS (pm_l mi) (eg_hl ad ls)) (hv : eg_LV lv σ ls st)
    (K : ∀ (ad2 : eg_A) (H2 : Heap) (locs2 : List Loc), (∀ k i, lv σ k i → ad2.1 k i = ad.1 k i) → ad2.2 = ad.2 → eg_Inv X lv D A s ad2 σ1 H2 locs2 → (∀ v, r1 = some v → eg_lvV lv σ1 v) → W p l e (pm_R mi) s m args below meth c H2 locs2 (u.1 + (pg_mt j).2.1) (u.2 + (pg_mt j).2.2) Q (F0 m (pc + 3) LS ((r1.toList ++ st.drop (pg_mt j).1).map (eg_cv ad2)))) :
    W p l e (pm_R mi) s m args below meth c H locs u.1 u.2 Q (F0 m pc LS (st.map (eg_cv ad))) := by
  obtain ⟨hx, hb, hret, hml, hown, hlk, hnm⟩ := hC
  obtain ⟨w1, hb0, hk1, hj, hlink⟩ := hs
  simp only [Bool.and_eq_true] at hg
  have hg1 := Nat.le_of_ble_eq_true hg.1
  have hg2 := Nat.le_of_ble_eq_true hg.2.1
  have hg3 := Nat.le_of_ble_eq_true hg.2.2
  have hrc := hrc.resolve_left hb0
  unfold eg_rcv at hrc
  split at hrc
  · rename_i q tl hdr
    have hkb : pg_kc q.1 = b := Nat.eq_of_beq_eq_true hrc
    subst hkb
    obtain ⟨e1, e2, e3, e4⟩ := eg_split hdr
    rw [← hk1] at e2 e3
    have hlq : eg_lvV lv σ (.inr q) := hv.2 _ (by rw [e1]; exact List.mem_append_right _ List.mem_cons_self)
    have hlv := eg_live_kc hlq hb0
    have hq2 := (hI.1 _ _ hlv).1
    have hav : (st.take (pg_mt j).1).reverse = .inr q :: (st.take ((pg_mt j).1 - 1)).reverse := by rw [e2]; simp
    have hlt : ∀ v ∈ (st.take (pg_mt j).1).reverse, eg_lvV lv σ v := fun v hv9 => hv.2 v (List.mem_of_mem_take (List.mem_reverse.mp hv9))
    have hz := hS.2.2.2.2.1
    have hM := eg_met (l := l) (ad := ad) IH hip hj.2.2.2.2.2.2.1 (by rw [List.length_reverse, List.length_take]; have := hj.2.2.2.2.2.2.2; omega) hz
    have hargs : ((st.take (pg_mt j).1).reverse).map (eg_cv ad) = .ref (ad.1 q.1 q.2) :: ((st.take ((pg_mt j).1 - 1)).reverse).map (eg_cv ad) := by rw [hav, List.map_cons, eg_cv_ref hq2]
    have hstk : st.map (eg_cv ad) = (((st.take ((pg_mt j).1 - 1)).reverse).map (eg_cv ad)).reverse ++ .ref (ad.1 q.1 q.2) :: (st.drop (pg_mt j).1).map (eg_cv ad) := by
      rw [← List.map_reverse, List.reverse_reverse, e3]
      conv => lhs; rw [e1]
      rw [List.map_append, List.map_cons, eg_cv_ref hq2]
    obtain ⟨hw1, hw2⟩ := eg_words hS.2.1 hj
    have hpreS : PreS s H (eg_Pc X lv D A ad σ (st.take (pg_mt j).1).reverse) (.ref (ad.1 q.1 q.2) :: ((st.take ((pg_mt j).1 - 1)).reverse).map (eg_cv ad)) :=
      ⟨eg_Pc.blind, fun U hU hW => by rw [← hargs]; exact eg_Pc.of hS hI hlt hU hW⟩
    have hpre : PreV s H (pm_c (pg_kc q.1)).1 (ad.1 q.1 q.2) (eg_Pc X lv D A ad σ (st.take (pg_mt j).1).reverse) (((st.take ((pg_mt j).1 - 1)).reverse).map (eg_cv ad)) :=
      ⟨eg_Pc.blind, eg_recv hS hI hlv hb0, fun U hU hW => by rw [← hargs]; exact eg_Pc.of hS hI hlt hU hW⟩
    have hlen : (((st.take ((pg_mt j).1 - 1)).reverse).map (eg_cv ad)).length = (pg_mt j).1 - 1 := by
      rw [List.length_map, List.length_reverse, List.length_take]; omega
    have hroom : 2 * (F0 m pc LS (st.map (eg_cv ad))).monitorRoom + (((st.drop (pg_mt j).1).map (eg_cv ad)).map fun v => v.category).sum ≤ 8 := by
      rw [eg_cats hz, List.length_drop]; show 2 * 0 + _ ≤ _; omega
    have fin : ∀ a9, va_Run p l e (pm_R mi) s m args below meth c H locs u.1 u.2 (pg_mt j).2.1 (pg_mt j).2.2 (F0 m pc LS (st.map (eg_cv ad))) ((st.drop (pg_mt j).1).map (eg_cv ad)) (eg_Qc X lv D A ad σ σ1 r1 a9) A → W p l e (pm_R mi) s m args below meth c H locs u.1 u.2 Q (F0 m pc LS (st.map (eg_cv ad))) := fun a9 hr => eg_call_back hr hI (fun ad2 H2 locs2 x1 x2 x3 x4 => by
      have := K ad2 H2 locs2 x1 x2 x3 x4
      rw [← eg_rest_ok (r1 := r1) (tl := st.drop (pg_mt j).1) (fun v hv9 => hv.2 v (List.mem_of_mem_drop hv9)) x1 x2] at this
      exact this)
    rcases hlink with ⟨hin, hrn, k1 | ⟨host, k1⟩⟩ | ⟨hni, hb10, k1, k2, k3⟩
    · rw [hrn] at hM hw1
      exact fin _ (va_runI (Ts := []) ⟨hx, hb, hml, hown, fun _ h => by cases h⟩ hM ⟨⟨rfl, rfl, hj.2.2.2.2.1, hj.2.2.2.2.2.1, hw1, List.mem_singleton.mpr rfl, by rw [← hrn]; exact hS.2.1.use hj.1 rfl, hS.2.1.use hj.2.1 rfl, hj.2.2.1, hw2, hS.2.1.use k1 rfl⟩, hin, hS.2.1.use w1 rfl⟩ hpreS rfl hlen hl.1 hstk hroom hd ⟨hg2, hg3⟩)
    · rw [hrn] at hM hw1
      exact fin _ (va_runIN (Ts := []) (host := host) ⟨hx, hb, hml, hown, fun _ h => by cases h⟩ hM ⟨⟨⟨rfl, rfl, hj.2.2.2.2.1, hj.2.2.2.2.2.1, hw1, List.mem_singleton.mpr rfl⟩, by rw [← hrn]; exact hS.2.1.use hj.1 rfl, hS.2.1.use hj.2.1 rfl, hj.2.2.1, hw2, hS.2.1.use k1 rfl⟩, hin, hS.2.1.use w1 rfl⟩ hpreS rfl hlen hl.1 hstk hroom hd ⟨hg2, hg3⟩)
    · have hcl : pm_cl[pg_kc q.1 - 1]? = some (pm_c (pg_kc q.1)) := by
        have := pm_cl_at (pg_kc q.1 - 1) (by omega)
        rw [show pg_kc q.1 - 1 + 1 = pg_kc q.1 by omega] at this
        exact this
      exact fin _ (va_runSU (Ts := []) (hS.1.1 _ _ hcl).2 ⟨hx, hb, hml, hown, fun _ h => by cases h⟩ hM ⟨⟨rfl, rfl, hj.2.2.2.2.1, hj.2.2.2.2.2.1, hw1, List.mem_singleton.mpr rfl⟩, hS.2.1.use k1 rfl, hS.2.1.use k2 rfl, hS.2.1.use k3 rfl, hS.2.1.use w1 rfl, hS.2.1.use hj.2.1 rfl, hS.2.1.use hj.1 rfl, hni, hw2⟩ hpre rfl hlen hl.1 hstk hroom hd ⟨hg2, hg3⟩)
  · cases hrc
theorem eg_call_S (IH : eg_Snd X lv D A l n) (hC : eg_Cx mi p s m meth c) (hd : decode (pm_b mi) pc = .ok (.invokestatic idx, 3)) (hs : eg_cS mi idx j) (hn : (pg_mt j).1 ≤ st.length) (hg : (Nat.ble (st.length - (pg_mt j).1) 8 && (Nat.ble (u.1 + (pg_mt j).2.1) (pg_mt mi).2.1 && Nat.ble (u.2 + (pg_mt j).2.2) (pg_mt mi).2.2)) = true)
    (hip : eg_ip X pg_T n j 0 σ (0, 0) (eg_ent 0 (st.take (pg_mt j).1).reverse) [] = some (σ1, r1)) (hS : eg_Sta D A s ad) (hI : eg_Inv X lv D A s ad σ H locs) (hl : lv_has LS (pm_l mi) (eg_hl ad ls)) (hv : eg_LV lv σ ls st)
    (K : ∀ (ad2 : eg_A) (H2 : Heap) (locs2 : List Loc), (∀ k i, lv σ k i → ad2.1 k i = ad.1 k i) → ad2.2 = ad.2 → eg_Inv X lv D A s ad2 σ1 H2 locs2 → (∀ v, r1 = some v → eg_lvV lv σ1 v) → W p l e (pm_R mi) s m args below meth c H2 locs2 (u.1 + (pg_mt j).2.1) (u.2 + (pg_mt j).2.2) Q (F0 m (pc + 3) LS ((r1.toList ++ st.drop (pg_mt j).1).map (eg_cv ad2)))) :
    W p l e (pm_R mi) s m args below meth c H locs u.1 u.2 Q (F0 m pc LS (st.map (eg_cv ad))) := by
  obtain ⟨hx, hb, hret, hml, hown, hlk, hnm⟩ := hC
  obtain ⟨k1, w1, hj⟩ := hs
  simp only [Bool.and_eq_true] at hg
  have hg1 := Nat.le_of_ble_eq_true hg.1
  have hg2 := Nat.le_of_ble_eq_true hg.2.1
  have hg3 := Nat.le_of_ble_eq_true hg.2.2
  have hlt : ∀ v ∈ (st.take (pg_mt j).1).reverse, eg_lvV lv σ v := fun v hv9 => hv.2 v (List.mem_of_mem_take (List.mem_reverse.mp hv9))
  have hz := hS.2.2.2.2.1
  have hM := eg_met (l := l) (ad := ad) IH hip hj.2.2.2.2.2.2.1 (by rw [List.length_reverse, List.length_take]; have := hj.2.2.2.2.2.2.2; omega) hz
  have hstk : st.map (eg_cv ad) = (((st.take (pg_mt j).1).reverse).map (eg_cv ad)).reverse ++ (st.drop (pg_mt j).1).map (eg_cv ad) := by
    rw [← List.map_reverse, List.reverse_reverse, ← List.map_append, List.take_append_drop]
  obtain ⟨hw1, hw2⟩ := eg_words hS.2.1 hj
  have hlen : (((st.take (pg_mt j).1).reverse).map (eg_cv ad)).length = (pg_mt j).1 := by
    rw [List.length_map, List.length_reverse, List.length_take]; omega
  have hroom : 2 * (F0 m pc LS (st.map (eg_cv ad))).monitorRoom + (((st.drop (pg_mt j).1).map (eg_cv ad)).map fun v => v.category).sum ≤ 8 := by
    rw [eg_cats hz, List.length_drop]; show 2 * 0 + _ ≤ _; omega
  have hr := va_runS (R := pm_R mi) (meth := meth) (args := args) (Ts := []) (As := ((st.take (pg_mt j).1).reverse).map (eg_cv ad)) (rest := (st.drop (pg_mt j).1).map (eg_cv ad)) (g := F0 m pc LS (st.map (eg_cv ad))) (H := H) (locs := locs) (cells := u.1) (slots := u.2) (below := below) (e := e) (own := eg_own mi) ⟨hx, hb, hml, hown, fun _ h => by cases h⟩ hM ⟨⟨rfl, rfl, hj.2.2.2.2.1, hj.2.2.2.2.2.1, hw1, List.mem_singleton.mpr rfl, hS.2.1.use hj.1 rfl, hS.2.1.use hj.2.1 rfl, hj.2.2.1, hw2, hS.2.1.use k1 rfl⟩, hS.2.1.use w1 rfl⟩ ⟨eg_Pc.blind, fun U hU hW => eg_Pc.of hS hI hlt hU hW⟩ rfl hlen hl.1 hstk hroom hd ⟨hg2, hg3⟩
  refine eg_call_back hr hI (fun ad2 H2 locs2 x1 x2 x3 x4 => ?_)
  have := K ad2 H2 locs2 x1 x2 x3 x4
  rw [← eg_rest_ok (r1 := r1) (tl := st.drop (pg_mt j).1) (fun v hv9 => hv.2 v (List.mem_of_mem_drop hv9)) x1 x2] at this
  exact this
end EGT
end
section
/-! THE ENGINE IS RIGHT: the theorem -/
def eg_Tbl : Prop := ∀ (mi pc : Nat) (I : Jvm.ClassFile.Instr) (len a b : Nat), pg_ins mi pc = some (I, len, a, b) → decode (pm_b mi) pc = .ok (I, len) ∧ eg_site mi pc I a b ∧ ∀ k, eg_ln I = some k → len = k
section EGZ
variable {S : Type} (X : eg_X S) (lv : S → Nat → Nat → Prop)
def eg_Lmn : Prop := (∀ (σ : S) (k i j : Nat) (v : eg_V) (σ2 : S), X.2.2.1 σ k i j v = some σ2 → ∀ k2 i2, lv σ k2 i2 → lv σ2 k2 i2) ∧ (∀ (σ : S) (k n : Nat) (σ2 : S) (i : Nat), X.2.2.2.1 σ k n = some (σ2, i) → ∀ k2 i2, lv σ k2 i2 → lv σ2 k2 i2) ∧ (∀ (σ : S) (q : Nat × Nat) (sp : Nat) (d : Nat × Nat) (dp n : Nat) (σ2 : S), X.2.2.2.2 σ q sp d dp n = some σ2 → ∀ k2 i2, lv σ k2 i2 → lv σ2 k2 i2)
variable {X lv} {D : va_G} {A : Nat → Prop} {l : Launch}
theorem eg_ok_mono {mi : Nat} {σ σ2 : S} (hM : eg_Lmn X lv) (h : σ2 = σ ∨ (∃ k i j v, X.2.2.1 σ k i j v = some σ2) ∨ (∃ k n i, X.2.2.2.1 σ k n = some (σ2, i)) ∨ ∃ q sp d dp n, X.2.2.2.2 σ q sp d dp n = some σ2) : ∀ k i, lv σ k i → lv σ2 k i := by
  rcases h with rfl | ⟨k, i, j, v, h⟩ | ⟨k, n, i, h⟩ | ⟨q, sp, d, dp, n, h⟩
  · exact fun _ _ h => h
  · exact hM.1 _ _ _ _ _ _ h
  · exact hM.2.1 _ _ _ _ _ h
  · exact hM.2.2 _ _ _ _ _ _ _ h
theorem eg_ri_spec {a : Nat} {st : List eg_V} {g : Bool} {c : eg_R S} (h : (eg_ri a st : eg_O S) = some (g, c)) : ∃ x, st = [.inl x] ∧ g = eg_rf a x ∧ c = .inr (.inr (some (.inl x))) := by
  unfold eg_ri at h
  split at h
  · cases h; exact ⟨_, rfl, rfl, rfl⟩
  · cases h
theorem eg_ra_spec {st : List eg_V} {g : Bool} {c : eg_R S} (h : (eg_ra st : eg_O S) = some (g, c)) : ∃ q, st = [.inr q] ∧ c = .inr (.inr (some (.inr q))) := by
  unfold eg_ra at h
  split at h
  · cases h; exact ⟨_, rfl, rfl⟩
  · cases h
theorem eg_rv_spec {st : List eg_V} {g : Bool} {c : eg_R S} (h : (eg_rv st : eg_O S) = some (g, c)) : st = [] ∧ c = .inr (.inr none) := by
  unfold eg_rv at h
  split at h
  · cases h; exact ⟨rfl, rfl⟩
  · cases h
theorem eg_ip_mono (hM : eg_Lmn X lv) : ∀ (n mi pc : Nat) (σ : S) (u : Nat × Nat) (ls : eg_L) (st : List eg_V) (σ2 : S) (r : Option eg_V), eg_ip X pg_T n mi pc σ u ls st = some (σ2, r) → ∀ k i, lv σ k i → lv σ2 k i := by
  intro n
  induction n with
  | zero => intro mi pc σ u ls st σ2 r h; cases h
  | succ n ih =>
    intro mi pc σ u ls st σ2 r h k i hk
    rw [eg_ip] at h
    split at h
    · rename_i pc2 σ3 u2 ls2 st2 hst
      refine ih _ _ _ _ _ _ _ _ h k i ?_
      unfold eg_step at hst
      split at hst
      · rcases eg_do_shape hst with ⟨_, _, _, _, _, hc, hσ, -⟩ | ⟨idx, -, hc⟩ | ⟨idx, -, -, hc⟩ | ⟨-, hc⟩ | ⟨-, hc⟩ | ⟨-, hc⟩
        · cases hc
          exact eg_ok_mono (mi := mi) hM hσ k i hk
        · exact (eg_call_inl hc).elim
        · exact (eg_call_inl hc).elim
        · exact absurd hc eg_ret_inl.1
        · exact absurd hc (eg_ret_inl (a := 0)).2.1
        · exact absurd hc (eg_ret_inl (a := 0)).2.2
      · cases hst
    · split at h
      · rename_i h2
        exact ih _ _ _ _ _ _ _ _ h k i (ih _ _ _ _ _ _ _ _ h2 k i hk)
      · cases h
    · cases h; exact hk
    · cases h
theorem eg_rf_spec {a : Nat} {x : Int32} {mi : Nat} (h : eg_rf a x = true) (hs : (a = 1 ∧ pm_r mi = some .int) ∨ (a = 2 ∧ pm_r mi = some .boolean) ∨ (a = 3 ∧ pm_r mi = some .char) ∨ (a = 4 ∧ pm_r mi = some .byte)) : ∃ ty, pm_r mi = some ty ∧ narrow ty (.int x) = .int x := by
  rcases hs with ⟨rfl, h2⟩ | ⟨rfl, h2⟩ | ⟨rfl, h2⟩ | ⟨rfl, h2⟩
  · exact ⟨_, h2, rfl⟩
  · have h3 : x = 0 ∨ x = 1 := by simpa [eg_rf] using h
    rcases h3 with rfl | rfl <;> exact ⟨_, h2, rfl⟩
  · have h3 : x.toUInt32.toUInt16.toUInt32.toInt32 = x := by simpa [eg_rf] using h
    exact ⟨_, h2, by show Value.int x.toUInt32.toUInt16.toUInt32.toInt32 = _; rw [h3]⟩
  · have h3 : x.toInt8.toInt32 = x := by simpa [eg_rf] using h
    exact ⟨_, h2, by show Value.int x.toInt8.toInt32 = _; rw [h3]⟩
theorem eg_sound (hTb : eg_Tbl) (hLw : eg_Lwr X lv) (hLn : eg_Lnw X lv) (hLc : eg_Lcp X lv) (hLs : eg_Lst lv) (hM : eg_Lmn X lv) : ∀ n, eg_Snd X lv D A l n := by
  intro n
  induction n with
  | zero => intro mi pc σ u ls st σ2 r h; cases h
  | succ n IH =>
    intro mi pc σ u ls st σ2 r h hu1 hu2 p e s m args below meth c Q hC ad H locs LS hS hI hl hv K
    rw [eg_ip] at h
    cases hst : eg_step X pg_T mi pc σ u ls st with
    | none => rw [hst] at h; cases h
    | some gc =>
      obtain ⟨g, cc⟩ := gc
      rw [hst] at h
      unfold eg_step at hst
      cases hins : pg_T.1 mi pc with
      | none => rw [hins] at hst; cases hst
      | some q =>
        obtain ⟨I, len, a, b⟩ := q
        rw [hins] at hst
        replace hst : eg_do X pg_T I a b mi pc σ u ls st = some (g, cc) := hst
        obtain ⟨hd, hsite, hln⟩ := hTb mi pc I len a b hins
        cases g with
        | false => rcases cc with ⟨_, _, _, _, _⟩ | ⟨_, _, _, _⟩ | _ <;> cases h
        | true =>
          -- behind a call of j
          have behind : ∀ (j : Nat) (σ1 : S) (r1 : Option eg_V), eg_ip X pg_T n j 0 σ (0, 0) (eg_ent 0 (st.take (pg_mt j).1).reverse) [] = some (σ1, r1) → (Nat.ble (st.length - (pg_mt j).1) 8 && (Nat.ble (u.1 + (pg_mt j).2.1) (pg_mt mi).2.1 && Nat.ble (u.2 + (pg_mt j).2.2) (pg_mt mi).2.2)) = true → eg_ip X pg_T n mi (pc + 3) σ1 (u.1 + (pg_mt j).2.1, u.2 + (pg_mt j).2.2) ls (r1.toList ++ st.drop (pg_mt j).1) = some (σ2, r) →
              ∀ (ad2 : eg_A) (H2 : Heap) (locs2 : List Loc), (∀ k i, lv σ k i → ad2.1 k i = ad.1 k i) → ad2.2 = ad.2 → eg_Inv X lv D A s ad2 σ1 H2 locs2 → (∀ v, r1 = some v → eg_lvV lv σ1 v) → W p l e (pm_R mi) s m args below meth c H2 locs2 (u.1 + (pg_mt j).2.1) (u.2 + (pg_mt j).2.2) Q (F0 m (pc + 3) LS ((r1.toList ++ st.drop (pg_mt j).1).map (eg_cv ad2))) := by
            intro j σ1 r1 hj hg h9 ad2 H2 locs2 x1 x2 x3 x4
            simp only [Bool.and_eq_true] at hg
            have hmon := eg_ip_mono hM _ _ _ _ _ _ _ _ _ hj
            have hlvV : ∀ x, eg_lvV lv σ x → eg_lvV lv σ1 x := fun x hx => by
              cases x with
              | inl y => trivial
              | inr q => exact hx.elim Or.inl (fun z => Or.inr (z.elim Or.inl (fun z => Or.inr (hmon _ _ z))))
            refine IH mi (pc + 3) σ1 _ ls _ σ2 r h9 (Nat.le_of_ble_eq_true hg.2.1) (Nat.le_of_ble_eq_true hg.2.2) p e s m args below meth c Q hC ad2 H2 locs2 LS (hS.ext hLs σ x1 x2) x3 (by rw [eg_hl_ext hv.1 x1 x2]; exact hl) ⟨fun q hq => hlvV _ (hv.1 q hq), fun v hv9 => ?_⟩ (fun ad3 H3 locs3 LS3 u3 pcr y1 y2 y3 y4 y5 y6 y7 y8 => K ad3 H3 locs3 LS3 u3 pcr (fun k i hk => (y1 k i (hmon k i hk)).trans (x1 k i hk)) (y2.trans x2) y3 y4 y5 y6 y7 y8)
            rcases List.mem_append.mp hv9 with h8 | h8
            · cases r1 with
              | none => cases h8
              | some v1 => rw [List.mem_singleton.mp h8]; exact x4 v1 rfl
            · exact hlvV _ (hv.2 v (List.mem_of_mem_drop h8))
          rcases eg_do_shape hst with ⟨pc2, σ3, u3, ls3, st3, rfl, hσ, hu⟩ | ⟨idx, hI2, hcall⟩ | ⟨idx, rfl, hb99, hcall⟩ | ⟨rfl, hr⟩ | ⟨rfl, hr⟩ | ⟨rfl, hr⟩
          · have hmon := eg_ok_mono (mi := mi) hM hσ
            have hub : u3.1 ≤ (pg_mt mi).2.1 ∧ u3.2 ≤ (pg_mt mi).2.2 := by
              rcases hu with rfl | hu
              · exact ⟨hu1, hu2⟩
              · exact hu rfl
            exact eg_next hLw hLn hLc hLs hC rfl ⟨hu1, hu2⟩ hd hsite hln hst ad H locs LS hS hI hl hv (fun ad2 H2 locs2 LS2 x1 x2 x3 x4 x5 x6 => IH mi pc2 σ3 u3 ls3 st3 σ2 r h hub.1 hub.2 p e s m args below meth c Q hC ad2 H2 locs2 LS2 x3 x4 x5 x6 (fun ad3 H3 locs3 LS3 u4 pcr y1 y2 y3 y4 y5 y6 y7 y8 => K ad3 H3 locs3 LS3 u4 pcr (fun k i hk => (y1 k i (hmon k i hk)).trans (x1 k i hk)) (y2.trans x2) y3 y4 y5 y6 y7 y8))
          · obtain ⟨c1, c2, c3, rfl⟩ := eg_call_spec hcall
            replace h : (match eg_ip X pg_T n a 0 σ (0, 0) (eg_ent 0 (st.take (pg_mt a).1).reverse) [] with
              | some (σ', r) => eg_ip X pg_T n mi (pc + 3) σ' (u.1 + (pg_mt a).2.1, u.2 + (pg_mt a).2.2) ls (r.toList ++ st.drop (pg_mt a).1)
              | none => none) = some (σ2, r) := h
            split at h
            · rename_i σ1 r1 hj
              rcases hI2 with rfl | ⟨rfl, hb99⟩
              · cases hln _ rfl
                exact eg_call_V IH hC hd hsite c1 c2 c3.symm hj hS hI hl hv (behind a σ1 r1 hj c3.symm h)
              · cases hln _ rfl
                exact eg_call_I IH hC hd ((hsite.resolve_left (fun z => hb99 z.1)).2) c1 c2 c3.symm hj hS hI hl hv (behind a σ1 r1 hj c3.symm h)
            · cases h
          · obtain ⟨c1, c2, c3, rfl⟩ := eg_call_spec hcall
            replace h : (match eg_ip X pg_T n a 0 σ (0, 0) (eg_ent 0 (st.take (pg_mt a).1).reverse) [] with
              | some (σ', r) => eg_ip X pg_T n mi (pc + 3) σ' (u.1 + (pg_mt a).2.1, u.2 + (pg_mt a).2.2) ls (r.toList ++ st.drop (pg_mt a).1)
              | none => none) = some (σ2, r) := h
            split at h
            · rename_i σ1 r1 hj
              cases hln _ rfl
              exact eg_call_S IH hC hd ((((hsite.resolve_left (fun z => hb99.1 z.1)).resolve_left (fun z => hb99.2.1 z.1)).resolve_left (fun z => hb99.2.2 z.1)).2) c1 c3.symm hj hS hI hl hv (behind a σ1 r1 hj c3.symm h)
            · cases h
          · obtain ⟨x, rfl, hg, rfl⟩ := eg_ri_spec hr
            cases hln _ rfl
            cases h
            obtain ⟨ty, t1, t2⟩ := eg_rf_spec hg.symm hsite
            exact K ad H locs LS u pc (fun _ _ _ => rfl) rfl hS hI (fun v hv9 => by cases hv9; trivial) hu1 hu2 (Or.inr (Or.inl ⟨x, ty, rfl, t1, t2, hd⟩))
          · obtain ⟨q, rfl, rfl⟩ := eg_ra_spec hr
            cases hln _ rfl
            cases h
            obtain ⟨rt, t1, t2⟩ := hsite
            exact K ad H locs LS u pc (fun _ _ _ => rfl) rfl hS hI (fun v hv9 => by cases hv9; exact hv.top) hu1 hu2 (Or.inr (Or.inr ⟨q, rt, rfl, t1, t2, hd⟩))
          · obtain ⟨rfl, rfl⟩ := eg_rv_spec hr
            cases hln _ rfl
            cases h
            exact K ad H locs LS u pc (fun _ _ _ => rfl) rfl hS hI (fun v hv9 => by cases hv9) hu1 hu2 (Or.inl ⟨rfl, hsite, hd⟩)
end EGZ
end
section
/-! THE STORE of the running system: numbers at (kind, place, slot); how many byte arrays were made, their lengths, which one the builder has; the length of the script. Which references its fields hold is fixed -/
abbrev st_S : Type := (Nat → Nat → Nat → Int32) × Nat × (Nat → Nat) × Nat × Nat
def st_up (σ : st_S) (k i j : Nat) (x : Int32) : st_S := (fun k2 i2 j2 => bif Nat.beq k2 k && (Nat.beq i2 i && Nat.beq j2 j) then x else σ.1 k2 i2 j2, σ.2)
def kd_ordinal (i : Nat) : Int32 := ([0, 1, 2, 3, 4, 5, 6, 7, 8, 9, 10, 11, 12, 13, 14, 15] : List Int32).getD i 0
def kd_op (i : Nat) : Int32 := ([0, 1, 15, 18, 19, 144, 145, 146, 216, 40, 41, 50, 51, 56, 43, 256] : List Int32).getD i 0
def kd_units (i : Nat) : Int32 := ([1, 1, 1, 1, 2, 2, 2, 2, 2, 1, 2, 2, 2, 2, 2, 3] : List Int32).getD i 0
def kd_fieldAt (i : Nat) : Int32 := ([0, 0, 0, 12, 16, 0, 0, 0, 24, 8, 16, 16, 16, 16, 16, 0] : List Int32).getD i 0
def kd_secondRegisterAt (i : Nat) : Int32 := ([12, 12, 12, 12, 16, 16, 16, 16, 16, 12, 12, 12, 12, 12, 12, 12] : List Int32).getD i 0
def kd_goes (i : Nat) : Int32 := ([0, 0, 0, 0, 0, 0, 0, 0, 0, 1, 1, 1, 1, 1, 1, 0] : List Int32).getD i 0
def kd_word (i : Nat) : Nat := ([1, 15, 13, 7, 7, 17, 19, 20, 9, 3, 3, 21, 23, 24, 11, 5] : List Nat).getD i 0
def kd_arguments (i : Nat) : Nat := ([2, 16, 14, 8, 8, 18, 18, 18, 10, 4, 4, 22, 22, 12, 12, 6] : List Nat).getD i 0
def kd_sw (i : Nat) : Int32 := ([0, 1, 0, 2, 3, 4, 5, 6, 7, 8, 9, 10, 11, 12, 0, 0] : List Int32).getD i 0
def kd_ones (i : Nat) : Int32 := ([48, 49, 50, 51, 52, 53, 54, 55, 56, 57, 48, 49, 50, 51, 52, 53, 54, 55, 56, 57, 48, 49, 50, 51, 52, 53, 54, 55, 56, 57, 48, 49, 50, 51, 52, 53, 54, 55, 56, 57, 48, 49, 50, 51, 52, 53, 54, 55, 56, 57, 48, 49, 50, 51, 52, 53, 54, 55, 56, 57, 48, 49, 50, 51, 52, 53, 54, 55, 56, 57, 48, 49, 50, 51, 52, 53, 54, 55, 56, 57, 48, 49, 50, 51, 52, 53, 54, 55, 56, 57, 48, 49, 50, 51, 52, 53, 54, 55, 56, 57] : List Int32).getD i 0
def kd_tens (i : Nat) : Int32 := ([48, 48, 48, 48, 48, 48, 48, 48, 48, 48, 49, 49, 49, 49, 49, 49, 49, 49, 49, 49, 50, 50, 50, 50, 50, 50, 50, 50, 50, 50, 51, 51, 51, 51, 51, 51, 51, 51, 51, 51, 52, 52, 52, 52, 52, 52, 52, 52, 52, 52, 53, 53, 53, 53, 53, 53, 53, 53, 53, 53, 54, 54, 54, 54, 54, 54, 54, 54, 54, 54, 55, 55, 55, 55, 55, 55, 55, 55, 55, 55, 56, 56, 56, 56, 56, 56, 56, 56, 56, 56, 57, 57, 57, 57, 57, 57, 57, 57, 57, 57] : List Int32).getD i 0
def kd_txt (i : Nat) : List Int32 := ([[32, 118], [110, 111, 112], [], [106, 117, 109, 112], [76], [99, 97, 115, 101, 115], [110, 76], [99, 111, 110, 115, 116], [65, 110], [97, 100, 100, 105], [65, 66, 110], [116, 97, 98, 108, 101], [65, 76], [114, 101, 116], [65], [109, 111, 118, 101], [65, 66], [97, 100, 100], [65, 66, 67], [115, 117, 98], [109, 117, 108], [106, 101, 113], [65, 66, 76], [106, 108, 116], [106, 122]] : List (List Int32)).getD i []
def ds_UnitDesk : Nat → Nat → Int32 → eg_V := fun i j x => ([.inr (3, 0), .inr (7, 0), .inr (16, 0), .inr (19, 0), .inr (22, 0), .inr (24, 0)] : List eg_V).getD j (.inl x)
def ds_Draft : Nat → Nat → Int32 → eg_V := fun i j x => ([.inr (4, 0), .inl x, .inr (5, 0), .inr (6, 0), .inl x] : List eg_V).getD j (.inl x)
def ds_Text : Nat → Nat → Int32 → eg_V := fun i j x => ([.inr (8, 0), .inl x, .inr (13, 0), .inl x, .inl x] : List eg_V).getD j (.inl x)
def ds_items : Nat → Nat → Int32 → eg_V := fun _ j _ => .inr (9, j)
def ds_Item : Nat → Nat → Int32 → eg_V := fun i j x => ([.inr (50, x.toNatClampNeg), .inl x, .inr (10, i), .inl x, .inl x, .inr (11, i), .inr (12, i), .inl x] : List eg_V).getD j (.inl x)
def ds_Labels : Nat → Nat → Int32 → eg_V := fun i j x => ([.inr (14, 0), .inr (15, 0), .inl x] : List eg_V).getD j (.inl x)
def ds_Code : Nat → Nat → Int32 → eg_V := fun i j x => ([.inr (17, 0), .inl x, .inr (18, 0)] : List eg_V).getD j (.inl x)
def ds_Reading : Nat → Nat → Int32 → eg_V := fun i j x => ([.inr (50, x.toNatClampNeg), .inl x, .inl x, .inr (20, i), .inl x, .inl x, .inr (21, i)] : List eg_V).getD j (.inl x)
def ds_Machine : Nat → Nat → Int32 → eg_V := fun i j x => ([.inr (23, 0), .inl x, .inl x, .inl x, .inl x, .inr (19, 1)] : List eg_V).getD j (.inl x)
def ds_SB : Nat → Nat → Int32 → eg_V := fun i j x => ([.inr (25, 0), .inl x, .inl x, .inl x] : List eg_V).getD j (.inl x)
def ds_Model : Nat → Nat → Int32 → eg_V := fun i j x => ([.inr (27, 0), .inr (28, 0), .inr (29, 0), .inl x, .inl x, .inr (30, 0), .inr (31, 0), .inr (32, 0), .inr (33, 0), .inr (34, 0), .inr (35, 0), .inr (36, 0), .inl x, .inr (37, 0), .inr (38, 0), .inl x, .inl x, .inl x, .inl x, .inl x, .inl x, .inl x, .inr (39, 0), .inr (40, 0), .inr (41, 0), .inl x, .inr (42, 0), .inl x, .inl x, .inl x, .inl x, .inl x, .inl x, .inl x, .inl x, .inl x, .inr (43, 0), .inr (44, 0), .inr (45, 0), .inl x, .inr (46, 0), .inl x, .inl x, .inl x, .inl x] : List eg_V).getD j (.inl x)
def ds_Kind : Nat → Nat → Int32 → eg_V := fun i j x => ([.inl (kd_ordinal i), .inl (kd_op i), .inl (kd_units i), .inr (53, kd_word i), .inr (53, kd_arguments i), .inl (kd_fieldAt i), .inl (kd_secondRegisterAt i), .inl (kd_goes i)] : List eg_V).getD j (.inl x)
def ds_KINDS : Nat → Nat → Int32 → eg_V := fun _ j _ => .inr (50, j)
def ds_swmap : Nat → Nat → Int32 → eg_V := fun _ j _ => .inl (kd_sw j)
def ds_String : Nat → Nat → Int32 → eg_V := fun i j x => ([.inr (54, i), .inl 0] : List eg_V).getD j (.inl x)
def ds_sbytes : Nat → Nat → Int32 → eg_V := fun i j _ => .inl ((kd_txt i).getD j 0)
def ds_ones : Nat → Nat → Int32 → eg_V := fun _ j _ => .inl (kd_ones j)
def ds_tens : Nat → Nat → Int32 → eg_V := fun _ j _ => .inl (kd_tens j)
def ds_num : Nat → Nat → Int32 → eg_V := fun _ _ x => .inl x
def st_ds (k : Nat) : Nat → Nat → Int32 → eg_V := ([ds_num, ds_num, ds_UnitDesk, ds_Draft, ds_num, ds_num, ds_num, ds_Text, ds_items, ds_Item, ds_num, ds_num, ds_num, ds_Labels, ds_num, ds_num, ds_Code, ds_num, ds_num, ds_Reading, ds_num, ds_num, ds_Machine, ds_num, ds_SB, ds_num, ds_Model, ds_num, ds_num, ds_num, ds_num, ds_num, ds_num, ds_num, ds_num, ds_num, ds_num, ds_num, ds_num, ds_num, ds_num, ds_num, ds_num, ds_num, ds_num, ds_num, ds_num, ds_num, ds_num, ds_num, ds_Kind, ds_KINDS, ds_swmap, ds_String, ds_sbytes, ds_ones, ds_tens, ds_num] : List (Nat → Nat → Int32 → eg_V)).getD k ds_num
def st_rd (σ : st_S) (k i j : Nat) : eg_V := bif Nat.beq k 24 && Nat.beq j 0 then .inr (25, σ.2.2.2.1) else st_ds k i j (σ.1 k i j)
def st_ln (k : Nat) : Nat := ([0, 0, 0, 0, 40, 40, 40, 0, 41, 0, 3, 4, 4, 0, 12, 12, 0, 200, 200, 0, 3, 4, 0, 16, 0, 0, 0, 40, 24, 24, 40, 40, 40, 40, 40, 40, 160, 12, 12, 4, 40, 41, 200, 200, 200, 80, 16, 0, 0, 0, 0, 16, 16, 0, 0, 100, 100, 0] : List Nat).getD k 0
def st_sz (σ : st_S) (k i : Nat) : Nat := bif Nat.beq k 25 then σ.2.2.1 i else bif Nat.beq k 57 then σ.2.2.2.2 else bif Nat.beq k 54 then (kd_txt i).length else st_ln k
def st_wl (k : Nat) : List Nat := ([[], [], [0, 0, 0, 0, 0, 0], [0, 1, 0, 0, 1], [], [], [], [0, 1, 0, 1, 1], [], [2, 1, 0, 1, 1, 0, 0, 1], [], [], [], [0, 0, 1], [], [], [0, 1, 0], [], [], [2, 1, 1, 0, 1, 1, 0], [], [], [0, 1, 1, 1, 1, 0], [], [3, 1, 1, 1], [], [0, 0, 0, 1, 1, 0, 0, 0, 0, 0, 0, 0, 1, 0, 0, 1, 1, 1, 1, 1, 1, 1, 0, 0, 0, 1, 0, 1, 1, 1, 1, 1, 1, 1, 1, 1, 0, 0, 0, 1, 0, 1, 1, 1, 1], [], [], [], [], [], [], [], [], [], [], [], [], [], [], [], [], [], [], [], [], [], [], [], [0, 0, 0, 0, 0, 0, 0, 0], [], [], [0, 0], [], [], [], []] : List (List Nat)).getD k []
def st_wt (k j : Nat) : Nat := bif Nat.beq (pg_ak k) 0 then (st_wl k).getD j 0 else bif Nat.ble 50 k || Nat.beq (pg_ak k) 5 then 0 else 1
def st_wr (σ : st_S) (k i j : Nat) (v : eg_V) : Option st_S := match v with
  | .inl x => bif Nat.beq (st_wt k j) 1 then some (st_up σ k i j x) else none
  | .inr q => bif Nat.beq (st_wt k j) 2 && Nat.beq q.1 50 then some (st_up σ k i j (Int32.ofNat q.2)) else bif Nat.beq (st_wt k j) 3 && Nat.beq q.1 25 then some (σ.1, σ.2.1, σ.2.2.1, q.2, σ.2.2.2.2) else none
def st_nw (σ : st_S) (k n : Nat) : Option (st_S × Nat) := bif Nat.beq k 25 then some ((fun k2 i2 j2 => bif Nat.beq k2 25 && Nat.beq i2 σ.2.1 then 0 else σ.1 k2 i2 j2, σ.2.1 + 1, fun i => bif Nat.beq i σ.2.1 then n else σ.2.2.1 i, σ.2.2.2.1, σ.2.2.2.2), σ.2.1) else none
def st_cp (σ : st_S) (q : Nat × Nat) (sp : Nat) (d : Nat × Nat) (dp n : Nat) : Option st_S := bif Nat.beq d.1 25 then some (fun k2 i2 j2 => bif Nat.beq k2 25 && (Nat.beq i2 d.2 && (Nat.ble dp j2 && Nat.blt j2 (dp + n))) then eg_int (st_rd σ q.1 q.2 (sp + (j2 - dp))) else σ.1 k2 i2 j2, σ.2) else none
abbrev st_X : eg_X st_S := (st_rd, st_sz, st_wr, st_nw, st_cp)
/-- how many of a kind there are -/
def st_pop (k : Nat) : Nat := ([0, 0, 1, 1, 1, 1, 1, 1, 1, 41, 41, 41, 41, 1, 1, 1, 1, 1, 1, 2, 2, 2, 1, 1, 1, 0, 1, 1, 1, 1, 1, 1, 1, 1, 1, 1, 1, 1, 1, 1, 1, 1, 1, 1, 1, 1, 1, 0, 0, 0, 16, 1, 1, 25, 25, 1, 1, 1] : List Nat).getD k 0
def st_lv (σ : st_S) (k i : Nat) : Prop := if k = 25 then i < σ.2.1 else i < st_pop k
end
section
/-! LAWS of the store of the running system -/
def st_Q (k : Nat) : Prop := ∀ j, (st_wt k j = 1 → ∀ i x, st_ds k i j x = .inl x ∧ ¬ (k = 24 ∧ j = 0)) ∧ (st_wt k j = 2 → ∀ i x, st_ds k i j x = .inr (50, x.toNatClampNeg) ∧ ¬ (k = 24 ∧ j = 0)) ∧ (st_wt k j = 3 → k = 24 ∧ j = 0)
theorem st_q0 : st_Q 0 := fun j => ⟨(fun h => nomatch (show (0 : Nat) = 1 from h)), (fun h => nomatch (show (0 : Nat) = 2 from h)), (fun h => nomatch (show (0 : Nat) = 3 from h))⟩
theorem st_q1 : st_Q 1 := fun j => ⟨(fun h => nomatch (show (0 : Nat) = 1 from h)), (fun h => nomatch (show (0 : Nat) = 2 from h)), (fun h => nomatch (show (0 : Nat) = 3 from h))⟩
theorem st_q2 : st_Q 2
  | 0 => ⟨(fun h => absurd h (by decide)), (fun h => absurd h (by decide)), (fun h => absurd h (by decide))⟩
  | 1 => ⟨(fun h => absurd h (by decide)), (fun h => absurd h (by decide)), (fun h => absurd h (by decide))⟩
  | 2 => ⟨(fun h => absurd h (by decide)), (fun h => absurd h (by decide)), (fun h => absurd h (by decide))⟩
  | 3 => ⟨(fun h => absurd h (by decide)), (fun h => absurd h (by decide)), (fun h => absurd h (by decide))⟩
  | 4 => ⟨(fun h => absurd h (by decide)), (fun h => absurd h (by decide)), (fun h => absurd h (by decide))⟩
  | 5 => ⟨(fun h => absurd h (by decide)), (fun h => absurd h (by decide)), (fun h => absurd h (by decide))⟩
  | j + 6 => ⟨(fun h => nomatch (show (0 : Nat) = 1 from h)), (fun h => nomatch (show (0 : Nat) = 2 from h)), (fun h => nomatch (show (0 : Nat) = 3 from h))⟩
theorem st_q3 : st_Q 3
  | 0 => ⟨(fun h => absurd h (by decide)), (fun h => absurd h (by decide)), (fun h => absurd h (by decide))⟩
  | 1 => ⟨(fun _ i x => ⟨rfl, (fun z => absurd z (by decide))⟩), (fun h => absurd h (by decide)), (fun h => absurd h (by decide))⟩
  | 2 => ⟨(fun h => absurd h (by decide)), (fun h => absurd h (by decide)), (fun h => absurd h (by decide))⟩
  | 3 => ⟨(fun h => absurd h (by decide)), (fun h => absurd h (by decide)), (fun h => absurd h (by decide))⟩
  | 4 => ⟨(fun _ i x => ⟨rfl, (fun z => absurd z (by decide))⟩), (fun h => absurd h (by decide)), (fun h => absurd h (by decide))⟩
  | j + 5 => ⟨(fun h => nomatch (show (0 : Nat) = 1 from h)), (fun h => nomatch (show (0 : Nat) = 2 from h)), (fun h => nomatch (show (0 : Nat) = 3 from h))⟩
theorem st_q4 : st_Q 4 := fun j => ⟨(fun _ i x => ⟨rfl, (fun z => absurd z.1 (by decide))⟩), (fun h => nomatch (show (1 : Nat) = 2 from h)), (fun h => nomatch (show (1 : Nat) = 3 from h))⟩
theorem st_q5 : st_Q 5 := fun j => ⟨(fun _ i x => ⟨rfl, (fun z => absurd z.1 (by decide))⟩), (fun h => nomatch (show (1 : Nat) = 2 from h)), (fun h => nomatch (show (1 : Nat) = 3 from h))⟩
theorem st_q6 : st_Q 6 := fun j => ⟨(fun _ i x => ⟨rfl, (fun z => absurd z.1 (by decide))⟩), (fun h => nomatch (show (1 : Nat) = 2 from h)), (fun h => nomatch (show (1 : Nat) = 3 from h))⟩
theorem st_q7 : st_Q 7
  | 0 => ⟨(fun h => absurd h (by decide)), (fun h => absurd h (by decide)), (fun h => absurd h (by decide))⟩
  | 1 => ⟨(fun _ i x => ⟨rfl, (fun z => absurd z (by decide))⟩), (fun h => absurd h (by decide)), (fun h => absurd h (by decide))⟩
  | 2 => ⟨(fun h => absurd h (by decide)), (fun h => absurd h (by decide)), (fun h => absurd h (by decide))⟩
  | 3 => ⟨(fun _ i x => ⟨rfl, (fun z => absurd z (by decide))⟩), (fun h => absurd h (by decide)), (fun h => absurd h (by decide))⟩
  | 4 => ⟨(fun _ i x => ⟨rfl, (fun z => absurd z (by decide))⟩), (fun h => absurd h (by decide)), (fun h => absurd h (by decide))⟩
  | j + 5 => ⟨(fun h => nomatch (show (0 : Nat) = 1 from h)), (fun h => nomatch (show (0 : Nat) = 2 from h)), (fun h => nomatch (show (0 : Nat) = 3 from h))⟩
theorem st_q8 : st_Q 8 := fun j => ⟨(fun h => nomatch (show (0 : Nat) = 1 from h)), (fun h => nomatch (show (0 : Nat) = 2 from h)), (fun h => nomatch (show (0 : Nat) = 3 from h))⟩
theorem st_q9 : st_Q 9
  | 0 => ⟨(fun h => absurd h (by decide)), (fun _ i x => ⟨rfl, (fun z => absurd z (by decide))⟩), (fun h => absurd h (by decide))⟩
  | 1 => ⟨(fun _ i x => ⟨rfl, (fun z => absurd z (by decide))⟩), (fun h => absurd h (by decide)), (fun h => absurd h (by decide))⟩
  | 2 => ⟨(fun h => absurd h (by decide)), (fun h => absurd h (by decide)), (fun h => absurd h (by decide))⟩
  | 3 => ⟨(fun _ i x => ⟨rfl, (fun z => absurd z (by decide))⟩), (fun h => absurd h (by decide)), (fun h => absurd h (by decide))⟩
  | 4 => ⟨(fun _ i x => ⟨rfl, (fun z => absurd z (by decide))⟩), (fun h => absurd h (by decide)), (fun h => absurd h (by decide))⟩
  | 5 => ⟨(fun h => absurd h (by decide)), (fun h => absurd h (by decide)), (fun h => absurd h (by decide))⟩
  | 6 => ⟨(fun h => absurd h (by decide)), (fun h => absurd h (by decide)), (fun h => absurd h (by decide))⟩
  | 7 => ⟨(fun _ i x => ⟨rfl, (fun z => absurd z (by decide))⟩), (fun h => absurd h (by decide)), (fun h => absurd h (by decide))⟩
  | j + 8 => ⟨(fun h => nomatch (show (0 : Nat) = 1 from h)), (fun h => nomatch (show (0 : Nat) = 2 from h)), (fun h => nomatch (show (0 : Nat) = 3 from h))⟩
theorem st_q10 : st_Q 10 := fun j => ⟨(fun _ i x => ⟨rfl, (fun z => absurd z.1 (by decide))⟩), (fun h => nomatch (show (1 : Nat) = 2 from h)), (fun h => nomatch (show (1 : Nat) = 3 from h))⟩
theorem st_q11 : st_Q 11 := fun j => ⟨(fun _ i x => ⟨rfl, (fun z => absurd z.1 (by decide))⟩), (fun h => nomatch (show (1 : Nat) = 2 from h)), (fun h => nomatch (show (1 : Nat) = 3 from h))⟩
theorem st_q12 : st_Q 12 := fun j => ⟨(fun _ i x => ⟨rfl, (fun z => absurd z.1 (by decide))⟩), (fun h => nomatch (show (1 : Nat) = 2 from h)), (fun h => nomatch (show (1 : Nat) = 3 from h))⟩
theorem st_q13 : st_Q 13
  | 0 => ⟨(fun h => absurd h (by decide)), (fun h => absurd h (by decide)), (fun h => absurd h (by decide))⟩
  | 1 => ⟨(fun h => absurd h (by decide)), (fun h => absurd h (by decide)), (fun h => absurd h (by decide))⟩
  | 2 => ⟨(fun _ i x => ⟨rfl, (fun z => absurd z (by decide))⟩), (fun h => absurd h (by decide)), (fun h => absurd h (by decide))⟩
  | j + 3 => ⟨(fun h => nomatch (show (0 : Nat) = 1 from h)), (fun h => nomatch (show (0 : Nat) = 2 from h)), (fun h => nomatch (show (0 : Nat) = 3 from h))⟩
theorem st_q14 : st_Q 14 := fun j => ⟨(fun _ i x => ⟨rfl, (fun z => absurd z.1 (by decide))⟩), (fun h => nomatch (show (1 : Nat) = 2 from h)), (fun h => nomatch (show (1 : Nat) = 3 from h))⟩
theorem st_q15 : st_Q 15 := fun j => ⟨(fun _ i x => ⟨rfl, (fun z => absurd z.1 (by decide))⟩), (fun h => nomatch (show (1 : Nat) = 2 from h)), (fun h => nomatch (show (1 : Nat) = 3 from h))⟩
theorem st_q16 : st_Q 16
  | 0 => ⟨(fun h => absurd h (by decide)), (fun h => absurd h (by decide)), (fun h => absurd h (by decide))⟩
  | 1 => ⟨(fun _ i x => ⟨rfl, (fun z => absurd z (by decide))⟩), (fun h => absurd h (by decide)), (fun h => absurd h (by decide))⟩
  | 2 => ⟨(fun h => absurd h (by decide)), (fun h => absurd h (by decide)), (fun h => absurd h (by decide))⟩
  | j + 3 => ⟨(fun h => nomatch (show (0 : Nat) = 1 from h)), (fun h => nomatch (show (0 : Nat) = 2 from h)), (fun h => nomatch (show (0 : Nat) = 3 from h))⟩
theorem st_q17 : st_Q 17 := fun j => ⟨(fun _ i x => ⟨rfl, (fun z => absurd z.1 (by decide))⟩), (fun h => nomatch (show (1 : Nat) = 2 from h)), (fun h => nomatch (show (1 : Nat) = 3 from h))⟩
theorem st_q18 : st_Q 18 := fun j => ⟨(fun _ i x => ⟨rfl, (fun z => absurd z.1 (by decide))⟩), (fun h => nomatch (show (1 : Nat) = 2 from h)), (fun h => nomatch (show (1 : Nat) = 3 from h))⟩
theorem st_q19 : st_Q 19
  | 0 => ⟨(fun h => absurd h (by decide)), (fun _ i x => ⟨rfl, (fun z => absurd z (by decide))⟩), (fun h => absurd h (by decide))⟩
  | 1 => ⟨(fun _ i x => ⟨rfl, (fun z => absurd z (by decide))⟩), (fun h => absurd h (by decide)), (fun h => absurd h (by decide))⟩
  | 2 => ⟨(fun _ i x => ⟨rfl, (fun z => absurd z (by decide))⟩), (fun h => absurd h (by decide)), (fun h => absurd h (by decide))⟩
  | 3 => ⟨(fun h => absurd h (by decide)), (fun h => absurd h (by decide)), (fun h => absurd h (by decide))⟩
  | 4 => ⟨(fun _ i x => ⟨rfl, (fun z => absurd z (by decide))⟩), (fun h => absurd h (by decide)), (fun h => absurd h (by decide))⟩
  | 5 => ⟨(fun _ i x => ⟨rfl, (fun z => absurd z (by decide))⟩), (fun h => absurd h (by decide)), (fun h => absurd h (by decide))⟩
  | 6 => ⟨(fun h => absurd h (by decide)), (fun h => absurd h (by decide)), (fun h => absurd h (by decide))⟩
  | j + 7 => ⟨(fun h => nomatch (show (0 : Nat) = 1 from h)), (fun h => nomatch (show (0 : Nat) = 2 from h)), (fun h => nomatch (show (0 : Nat) = 3 from h))⟩
theorem st_q20 : st_Q 20 := fun j => ⟨(fun _ i x => ⟨rfl, (fun z => absurd z.1 (by decide))⟩), (fun h => nomatch (show (1 : Nat) = 2 from h)), (fun h => nomatch (show (1 : Nat) = 3 from h))⟩
theorem st_q21 : st_Q 21 := fun j => ⟨(fun _ i x => ⟨rfl, (fun z => absurd z.1 (by decide))⟩), (fun h => nomatch (show (1 : Nat) = 2 from h)), (fun h => nomatch (show (1 : Nat) = 3 from h))⟩
theorem st_q22 : st_Q 22
  | 0 => ⟨(fun h => absurd h (by decide)), (fun h => absurd h (by decide)), (fun h => absurd h (by decide))⟩
  | 1 => ⟨(fun _ i x => ⟨rfl, (fun z => absurd z (by decide))⟩), (fun h => absurd h (by decide)), (fun h => absurd h (by decide))⟩
  | 2 => ⟨(fun _ i x => ⟨rfl, (fun z => absurd z (by decide))⟩), (fun h => absurd h (by decide)), (fun h => absurd h (by decide))⟩
  | 3 => ⟨(fun _ i x => ⟨rfl, (fun z => absurd z (by decide))⟩), (fun h => absurd h (by decide)), (fun h => absurd h (by decide))⟩
  | 4 => ⟨(fun _ i x => ⟨rfl, (fun z => absurd z (by decide))⟩), (fun h => absurd h (by decide)), (fun h => absurd h (by decide))⟩
  | 5 => ⟨(fun h => absurd h (by decide)), (fun h => absurd h (by decide)), (fun h => absurd h (by decide))⟩
  | j + 6 => ⟨(fun h => nomatch (show (0 : Nat) = 1 from h)), (fun h => nomatch (show (0 : Nat) = 2 from h)), (fun h => nomatch (show (0 : Nat) = 3 from h))⟩
theorem st_q23 : st_Q 23 := fun j => ⟨(fun _ i x => ⟨rfl, (fun z => absurd z.1 (by decide))⟩), (fun h => nomatch (show (1 : Nat) = 2 from h)), (fun h => nomatch (show (1 : Nat) = 3 from h))⟩
theorem st_q24 : st_Q 24
  | 0 => ⟨(fun h => absurd h (by decide)), (fun h => absurd h (by decide)), (fun _ => ⟨rfl, rfl⟩)⟩
  | 1 => ⟨(fun _ i x => ⟨rfl, (fun z => absurd z (by decide))⟩), (fun h => absurd h (by decide)), (fun h => absurd h (by decide))⟩
  | 2 => ⟨(fun _ i x => ⟨rfl, (fun z => absurd z (by decide))⟩), (fun h => absurd h (by decide)), (fun h => absurd h (by decide))⟩
  | 3 => ⟨(fun _ i x => ⟨rfl, (fun z => absurd z (by decide))⟩), (fun h => absurd h (by decide)), (fun h => absurd h (by decide))⟩
  | j + 4 => ⟨(fun h => nomatch (show (0 : Nat) = 1 from h)), (fun h => nomatch (show (0 : Nat) = 2 from h)), (fun h => nomatch (show (0 : Nat) = 3 from h))⟩
theorem st_q25 : st_Q 25 := fun j => ⟨(fun _ i x => ⟨rfl, (fun z => absurd z.1 (by decide))⟩), (fun h => nomatch (show (1 : Nat) = 2 from h)), (fun h => nomatch (show (1 : Nat) = 3 from h))⟩
theorem st_q26 : st_Q 26
  | 0 => ⟨(fun h => absurd h (by decide)), (fun h => absurd h (by decide)), (fun h => absurd h (by decide))⟩
  | 1 => ⟨(fun h => absurd h (by decide)), (fun h => absurd h (by decide)), (fun h => absurd h (by decide))⟩
  | 2 => ⟨(fun h => absurd h (by decide)), (fun h => absurd h (by decide)), (fun h => absurd h (by decide))⟩
  | 3 => ⟨(fun _ i x => ⟨rfl, (fun z => absurd z (by decide))⟩), (fun h => absurd h (by decide)), (fun h => absurd h (by decide))⟩
  | 4 => ⟨(fun _ i x => ⟨rfl, (fun z => absurd z (by decide))⟩), (fun h => absurd h (by decide)), (fun h => absurd h (by decide))⟩
  | 5 => ⟨(fun h => absurd h (by decide)), (fun h => absurd h (by decide)), (fun h => absurd h (by decide))⟩
  | 6 => ⟨(fun h => absurd h (by decide)), (fun h => absurd h (by decide)), (fun h => absurd h (by decide))⟩
  | 7 => ⟨(fun h => absurd h (by decide)), (fun h => absurd h (by decide)), (fun h => absurd h (by decide))⟩
  | 8 => ⟨(fun h => absurd h (by decide)), (fun h => absurd h (by decide)), (fun h => absurd h (by decide))⟩
  | 9 => ⟨(fun h => absurd h (by decide)), (fun h => absurd h (by decide)), (fun h => absurd h (by decide))⟩
  | 10 => ⟨(fun h => absurd h (by decide)), (fun h => absurd h (by decide)), (fun h => absurd h (by decide))⟩
  | 11 => ⟨(fun h => absurd h (by decide)), (fun h => absurd h (by decide)), (fun h => absurd h (by decide))⟩
  | 12 => ⟨(fun _ i x => ⟨rfl, (fun z => absurd z (by decide))⟩), (fun h => absurd h (by decide)), (fun h => absurd h (by decide))⟩
  | 13 => ⟨(fun h => absurd h (by decide)), (fun h => absurd h (by decide)), (fun h => absurd h (by decide))⟩
  | 14 => ⟨(fun h => absurd h (by decide)), (fun h => absurd h (by decide)), (fun h => absurd h (by decide))⟩
  | 15 => ⟨(fun _ i x => ⟨rfl, (fun z => absurd z (by decide))⟩), (fun h => absurd h (by decide)), (fun h => absurd h (by decide))⟩
  | 16 => ⟨(fun _ i x => ⟨rfl, (fun z => absurd z (by decide))⟩), (fun h => absurd h (by decide)), (fun h => absurd h (by decide))⟩
  | 17 => ⟨(fun _ i x => ⟨rfl, (fun z => absurd z (by decide))⟩), (fun h => absurd h (by decide)), (fun h => absurd h (by decide))⟩
  | 18 => ⟨(fun _ i x => ⟨rfl, (fun z => absurd z (by decide))⟩), (fun h => absurd h (by decide)), (fun h => absurd h (by decide))⟩
  | 19 => ⟨(fun _ i x => ⟨rfl, (fun z => absurd z (by decide))⟩), (fun h => absurd h (by decide)), (fun h => absurd h (by decide))⟩
  | 20 => ⟨(fun _ i x => ⟨rfl, (fun z => absurd z (by decide))⟩), (fun h => absurd h (by decide)), (fun h => absurd h (by decide))⟩
  | 21 => ⟨(fun _ i x => ⟨rfl, (fun z => absurd z (by decide))⟩), (fun h => absurd h (by decide)), (fun h => absurd h (by decide))⟩
  | 22 => ⟨(fun h => absurd h (by decide)), (fun h => absurd h (by decide)), (fun h => absurd h (by decide))⟩
  | 23 => ⟨(fun h => absurd h (by decide)), (fun h => absurd h (by decide)), (fun h => absurd h (by decide))⟩
  | 24 => ⟨(fun h => absurd h (by decide)), (fun h => absurd h (by decide)), (fun h => absurd h (by decide))⟩
  | 25 => ⟨(fun _ i x => ⟨rfl, (fun z => absurd z (by decide))⟩), (fun h => absurd h (by decide)), (fun h => absurd h (by decide))⟩
  | 26 => ⟨(fun h => absurd h (by decide)), (fun h => absurd h (by decide)), (fun h => absurd h (by decide))⟩
  | 27 => ⟨(fun _ i x => ⟨rfl, (fun z => absurd z (by decide))⟩), (fun h => absurd h (by decide)), (fun h => absurd h (by decide))⟩
  | 28 => ⟨(fun _ i x => ⟨rfl, (fun z => absurd z (by decide))⟩), (fun h => absurd h (by decide)), (fun h => absurd h (by decide))⟩
  | 29 => ⟨(fun _ i x => ⟨rfl, (fun z => absurd z (by decide))⟩), (fun h => absurd h (by decide)), (fun h => absurd h (by decide))⟩
  | 30 => ⟨(fun _ i x => ⟨rfl, (fun z => absurd z (by decide))⟩), (fun h => absurd h (by decide)), (fun h => absurd h (by decide))⟩
  | 31 => ⟨(fun _ i x => ⟨rfl, (fun z => absurd z (by decide))⟩), (fun h => absurd h (by decide)), (fun h => absurd h (by decide))⟩
  | 32 => ⟨(fun _ i x => ⟨rfl, (fun z => absurd z (by decide))⟩), (fun h => absurd h (by decide)), (fun h => absurd h (by decide))⟩
  | 33 => ⟨(fun _ i x => ⟨rfl, (fun z => absurd z (by decide))⟩), (fun h => absurd h (by decide)), (fun h => absurd h (by decide))⟩
  | 34 => ⟨(fun _ i x => ⟨rfl, (fun z => absurd z (by decide))⟩), (fun h => absurd h (by decide)), (fun h => absurd h (by decide))⟩
  | 35 => ⟨(fun _ i x => ⟨rfl, (fun z => absurd z (by decide))⟩), (fun h => absurd h (by decide)), (fun h => absurd h (by decide))⟩
  | 36 => ⟨(fun h => absurd h (by decide)), (fun h => absurd h (by decide)), (fun h => absurd h (by decide))⟩
  | 37 => ⟨(fun h => absurd h (by decide)), (fun h => absurd h (by decide)), (fun h => absurd h (by decide))⟩
  | 38 => ⟨(fun h => absurd h (by decide)), (fun h => absurd h (by decide)), (fun h => absurd h (by decide))⟩
  | 39 => ⟨(fun _ i x => ⟨rfl, (fun z => absurd z (by decide))⟩), (fun h => absurd h (by decide)), (fun h => absurd h (by decide))⟩
  | 40 => ⟨(fun h => absurd h (by decide)), (fun h => absurd h (by decide)), (fun h => absurd h (by decide))⟩
  | 41 => ⟨(fun _ i x => ⟨rfl, (fun z => absurd z (by decide))⟩), (fun h => absurd h (by decide)), (fun h => absurd h (by decide))⟩
  | 42 => ⟨(fun _ i x => ⟨rfl, (fun z => absurd z (by decide))⟩), (fun h => absurd h (by decide)), (fun h => absurd h (by decide))⟩
  | 43 => ⟨(fun _ i x => ⟨rfl, (fun z => absurd z (by decide))⟩), (fun h => absurd h (by decide)), (fun h => absurd h (by decide))⟩
  | 44 => ⟨(fun _ i x => ⟨rfl, (fun z => absurd z (by decide))⟩), (fun h => absurd h (by decide)), (fun h => absurd h (by decide))⟩
  | j + 45 => ⟨(fun h => nomatch (show (0 : Nat) = 1 from h)), (fun h => nomatch (show (0 : Nat) = 2 from h)), (fun h => nomatch (show (0 : Nat) = 3 from h))⟩
theorem st_q27 : st_Q 27 := fun j => ⟨(fun _ i x => ⟨rfl, (fun z => absurd z.1 (by decide))⟩), (fun h => nomatch (show (1 : Nat) = 2 from h)), (fun h => nomatch (show (1 : Nat) = 3 from h))⟩
theorem st_q28 : st_Q 28 := fun j => ⟨(fun _ i x => ⟨rfl, (fun z => absurd z.1 (by decide))⟩), (fun h => nomatch (show (1 : Nat) = 2 from h)), (fun h => nomatch (show (1 : Nat) = 3 from h))⟩
theorem st_q29 : st_Q 29 := fun j => ⟨(fun _ i x => ⟨rfl, (fun z => absurd z.1 (by decide))⟩), (fun h => nomatch (show (1 : Nat) = 2 from h)), (fun h => nomatch (show (1 : Nat) = 3 from h))⟩
theorem st_q30 : st_Q 30 := fun j => ⟨(fun _ i x => ⟨rfl, (fun z => absurd z.1 (by decide))⟩), (fun h => nomatch (show (1 : Nat) = 2 from h)), (fun h => nomatch (show (1 : Nat) = 3 from h))⟩
theorem st_q31 : st_Q 31 := fun j => ⟨(fun _ i x => ⟨rfl, (fun z => absurd z.1 (by decide))⟩), (fun h => nomatch (show (1 : Nat) = 2 from h)), (fun h => nomatch (show (1 : Nat) = 3 from h))⟩
theorem st_q32 : st_Q 32 := fun j => ⟨(fun _ i x => ⟨rfl, (fun z => absurd z.1 (by decide))⟩), (fun h => nomatch (show (1 : Nat) = 2 from h)), (fun h => nomatch (show (1 : Nat) = 3 from h))⟩
theorem st_q33 : st_Q 33 := fun j => ⟨(fun _ i x => ⟨rfl, (fun z => absurd z.1 (by decide))⟩), (fun h => nomatch (show (1 : Nat) = 2 from h)), (fun h => nomatch (show (1 : Nat) = 3 from h))⟩
theorem st_q34 : st_Q 34 := fun j => ⟨(fun _ i x => ⟨rfl, (fun z => absurd z.1 (by decide))⟩), (fun h => nomatch (show (1 : Nat) = 2 from h)), (fun h => nomatch (show (1 : Nat) = 3 from h))⟩
theorem st_q35 : st_Q 35 := fun j => ⟨(fun _ i x => ⟨rfl, (fun z => absurd z.1 (by decide))⟩), (fun h => nomatch (show (1 : Nat) = 2 from h)), (fun h => nomatch (show (1 : Nat) = 3 from h))⟩
theorem st_q36 : st_Q 36 := fun j => ⟨(fun _ i x => ⟨rfl, (fun z => absurd z.1 (by decide))⟩), (fun h => nomatch (show (1 : Nat) = 2 from h)), (fun h => nomatch (show (1 : Nat) = 3 from h))⟩
theorem st_q37 : st_Q 37 := fun j => ⟨(fun _ i x => ⟨rfl, (fun z => absurd z.1 (by decide))⟩), (fun h => nomatch (show (1 : Nat) = 2 from h)), (fun h => nomatch (show (1 : Nat) = 3 from h))⟩
theorem st_q38 : st_Q 38 := fun j => ⟨(fun _ i x => ⟨rfl, (fun z => absurd z.1 (by decide))⟩), (fun h => nomatch (show (1 : Nat) = 2 from h)), (fun h => nomatch (show (1 : Nat) = 3 from h))⟩
theorem st_q39 : st_Q 39 := fun j => ⟨(fun _ i x => ⟨rfl, (fun z => absurd z.1 (by decide))⟩), (fun h => nomatch (show (1 : Nat) = 2 from h)), (fun h => nomatch (show (1 : Nat) = 3 from h))⟩
theorem st_q40 : st_Q 40 := fun j => ⟨(fun _ i x => ⟨rfl, (fun z => absurd z.1 (by decide))⟩), (fun h => nomatch (show (1 : Nat) = 2 from h)), (fun h => nomatch (show (1 : Nat) = 3 from h))⟩
theorem st_q41 : st_Q 41 := fun j => ⟨(fun _ i x => ⟨rfl, (fun z => absurd z.1 (by decide))⟩), (fun h => nomatch (show (1 : Nat) = 2 from h)), (fun h => nomatch (show (1 : Nat) = 3 from h))⟩
theorem st_q42 : st_Q 42 := fun j => ⟨(fun _ i x => ⟨rfl, (fun z => absurd z.1 (by decide))⟩), (fun h => nomatch (show (1 : Nat) = 2 from h)), (fun h => nomatch (show (1 : Nat) = 3 from h))⟩
theorem st_q43 : st_Q 43 := fun j => ⟨(fun _ i x => ⟨rfl, (fun z => absurd z.1 (by decide))⟩), (fun h => nomatch (show (1 : Nat) = 2 from h)), (fun h => nomatch (show (1 : Nat) = 3 from h))⟩
theorem st_q44 : st_Q 44 := fun j => ⟨(fun _ i x => ⟨rfl, (fun z => absurd z.1 (by decide))⟩), (fun h => nomatch (show (1 : Nat) = 2 from h)), (fun h => nomatch (show (1 : Nat) = 3 from h))⟩
theorem st_q45 : st_Q 45 := fun j => ⟨(fun _ i x => ⟨rfl, (fun z => absurd z.1 (by decide))⟩), (fun h => nomatch (show (1 : Nat) = 2 from h)), (fun h => nomatch (show (1 : Nat) = 3 from h))⟩
theorem st_q46 : st_Q 46 := fun j => ⟨(fun _ i x => ⟨rfl, (fun z => absurd z.1 (by decide))⟩), (fun h => nomatch (show (1 : Nat) = 2 from h)), (fun h => nomatch (show (1 : Nat) = 3 from h))⟩
theorem st_q47 : st_Q 47 := fun j => ⟨(fun h => nomatch (show (0 : Nat) = 1 from h)), (fun h => nomatch (show (0 : Nat) = 2 from h)), (fun h => nomatch (show (0 : Nat) = 3 from h))⟩
theorem st_q48 : st_Q 48 := fun j => ⟨(fun h => nomatch (show (0 : Nat) = 1 from h)), (fun h => nomatch (show (0 : Nat) = 2 from h)), (fun h => nomatch (show (0 : Nat) = 3 from h))⟩
theorem st_q49 : st_Q 49 := fun j => ⟨(fun h => nomatch (show (0 : Nat) = 1 from h)), (fun h => nomatch (show (0 : Nat) = 2 from h)), (fun h => nomatch (show (0 : Nat) = 3 from h))⟩
theorem st_q50 : st_Q 50
  | 0 => ⟨(fun h => absurd h (by decide)), (fun h => absurd h (by decide)), (fun h => absurd h (by decide))⟩
  | 1 => ⟨(fun h => absurd h (by decide)), (fun h => absurd h (by decide)), (fun h => absurd h (by decide))⟩
  | 2 => ⟨(fun h => absurd h (by decide)), (fun h => absurd h (by decide)), (fun h => absurd h (by decide))⟩
  | 3 => ⟨(fun h => absurd h (by decide)), (fun h => absurd h (by decide)), (fun h => absurd h (by decide))⟩
  | 4 => ⟨(fun h => absurd h (by decide)), (fun h => absurd h (by decide)), (fun h => absurd h (by decide))⟩
  | 5 => ⟨(fun h => absurd h (by decide)), (fun h => absurd h (by decide)), (fun h => absurd h (by decide))⟩
  | 6 => ⟨(fun h => absurd h (by decide)), (fun h => absurd h (by decide)), (fun h => absurd h (by decide))⟩
  | 7 => ⟨(fun h => absurd h (by decide)), (fun h => absurd h (by decide)), (fun h => absurd h (by decide))⟩
  | j + 8 => ⟨(fun h => nomatch (show (0 : Nat) = 1 from h)), (fun h => nomatch (show (0 : Nat) = 2 from h)), (fun h => nomatch (show (0 : Nat) = 3 from h))⟩
theorem st_q51 : st_Q 51 := fun j => ⟨(fun h => nomatch (show (0 : Nat) = 1 from h)), (fun h => nomatch (show (0 : Nat) = 2 from h)), (fun h => nomatch (show (0 : Nat) = 3 from h))⟩
theorem st_q52 : st_Q 52 := fun j => ⟨(fun h => nomatch (show (0 : Nat) = 1 from h)), (fun h => nomatch (show (0 : Nat) = 2 from h)), (fun h => nomatch (show (0 : Nat) = 3 from h))⟩
theorem st_q53 : st_Q 53
  | 0 => ⟨(fun h => absurd h (by decide)), (fun h => absurd h (by decide)), (fun h => absurd h (by decide))⟩
  | 1 => ⟨(fun h => absurd h (by decide)), (fun h => absurd h (by decide)), (fun h => absurd h (by decide))⟩
  | j + 2 => ⟨(fun h => nomatch (show (0 : Nat) = 1 from h)), (fun h => nomatch (show (0 : Nat) = 2 from h)), (fun h => nomatch (show (0 : Nat) = 3 from h))⟩
theorem st_q54 : st_Q 54 := fun j => ⟨(fun h => nomatch (show (0 : Nat) = 1 from h)), (fun h => nomatch (show (0 : Nat) = 2 from h)), (fun h => nomatch (show (0 : Nat) = 3 from h))⟩
theorem st_q55 : st_Q 55 := fun j => ⟨(fun h => nomatch (show (0 : Nat) = 1 from h)), (fun h => nomatch (show (0 : Nat) = 2 from h)), (fun h => nomatch (show (0 : Nat) = 3 from h))⟩
theorem st_q56 : st_Q 56 := fun j => ⟨(fun h => nomatch (show (0 : Nat) = 1 from h)), (fun h => nomatch (show (0 : Nat) = 2 from h)), (fun h => nomatch (show (0 : Nat) = 3 from h))⟩
theorem st_q57 : st_Q 57 := fun j => ⟨(fun h => nomatch (show (0 : Nat) = 1 from h)), (fun h => nomatch (show (0 : Nat) = 2 from h)), (fun h => nomatch (show (0 : Nat) = 3 from h))⟩
theorem st_qlt : ∀ k, k < 58 → st_Q k := (lt_s (lt_s (lt_s (lt_s (lt_s (lt_s (lt_s (lt_s (lt_s (lt_s (lt_s (lt_s (lt_s (lt_s (lt_s (lt_s (lt_s (lt_s (lt_s (lt_s (lt_s (lt_s (lt_s (lt_s (lt_s (lt_s (lt_s (lt_s (lt_s (lt_s (lt_s (lt_s (lt_s (lt_s (lt_s (lt_s (lt_s (lt_s (lt_s (lt_s (lt_s (lt_s (lt_s (lt_s (lt_s (lt_s (lt_s (lt_s (lt_s (lt_s (lt_s (lt_s (lt_s (lt_s (lt_s (lt_s (lt_s (lt_s lt_0 st_q0) st_q1) st_q2) st_q3) st_q4) st_q5) st_q6) st_q7) st_q8) st_q9) st_q10) st_q11) st_q12) st_q13) st_q14) st_q15) st_q16) st_q17) st_q18) st_q19) st_q20) st_q21) st_q22) st_q23) st_q24) st_q25) st_q26) st_q27) st_q28) st_q29) st_q30) st_q31) st_q32) st_q33) st_q34) st_q35) st_q36) st_q37) st_q38) st_q39) st_q40) st_q41) st_q42) st_q43) st_q44) st_q45) st_q46) st_q47) st_q48) st_q49) st_q50) st_q51) st_q52) st_q53) st_q54) st_q55) st_q56) st_q57)
theorem st_wt_out {k j : Nat} (h : 58 ≤ k) : st_wt k j = 0 := by
  have ha : pg_ak k = 0 := eg_getD_out _ _ (show 58 ≤ k from h)
  unfold st_wt
  rw [ha]
  have hw : st_wl k = [] := eg_getD_out _ _ (show 58 ≤ k from h)
  rw [hw]
  rfl
theorem st_q (k : Nat) : st_Q k := by
  rcases Nat.lt_or_ge k 58 with h | h
  · exact st_qlt k h
  · intro j
    rw [st_wt_out h]
    exact ⟨(fun h => nomatch h), (fun h => nomatch h), (fun h => nomatch h)⟩
def st_W (k : Nat) : Prop := ∀ j, st_wt k j ≠ 0 → 2 ≤ k ∧ k < 50
theorem st_w0 : st_W 0 := fun j h => absurd (show st_wt 0 j = 0 from rfl) h
theorem st_w1 : st_W 1 := fun j h => absurd (show st_wt 1 j = 0 from rfl) h
theorem st_w2 : st_W 2 := fun _ _ => ⟨by decide, by decide⟩
theorem st_w3 : st_W 3 := fun _ _ => ⟨by decide, by decide⟩
theorem st_w4 : st_W 4 := fun _ _ => ⟨by decide, by decide⟩
theorem st_w5 : st_W 5 := fun _ _ => ⟨by decide, by decide⟩
theorem st_w6 : st_W 6 := fun _ _ => ⟨by decide, by decide⟩
theorem st_w7 : st_W 7 := fun _ _ => ⟨by decide, by decide⟩
theorem st_w8 : st_W 8 := fun _ _ => ⟨by decide, by decide⟩
theorem st_w9 : st_W 9 := fun _ _ => ⟨by decide, by decide⟩
theorem st_w10 : st_W 10 := fun _ _ => ⟨by decide, by decide⟩
theorem st_w11 : st_W 11 := fun _ _ => ⟨by decide, by decide⟩
theorem st_w12 : st_W 12 := fun _ _ => ⟨by decide, by decide⟩
theorem st_w13 : st_W 13 := fun _ _ => ⟨by decide, by decide⟩
theorem st_w14 : st_W 14 := fun _ _ => ⟨by decide, by decide⟩
theorem st_w15 : st_W 15 := fun _ _ => ⟨by decide, by decide⟩
theorem st_w16 : st_W 16 := fun _ _ => ⟨by decide, by decide⟩
theorem st_w17 : st_W 17 := fun _ _ => ⟨by decide, by decide⟩
theorem st_w18 : st_W 18 := fun _ _ => ⟨by decide, by decide⟩
theorem st_w19 : st_W 19 := fun _ _ => ⟨by decide, by decide⟩
theorem st_w20 : st_W 20 := fun _ _ => ⟨by decide, by decide⟩
theorem st_w21 : st_W 21 := fun _ _ => ⟨by decide, by decide⟩
theorem st_w22 : st_W 22 := fun _ _ => ⟨by decide, by decide⟩
theorem st_w23 : st_W 23 := fun _ _ => ⟨by decide, by decide⟩
theorem st_w24 : st_W 24 := fun _ _ => ⟨by decide, by decide⟩
theorem st_w25 : st_W 25 := fun _ _ => ⟨by decide, by decide⟩
theorem st_w26 : st_W 26 := fun _ _ => ⟨by decide, by decide⟩
theorem st_w27 : st_W 27 := fun _ _ => ⟨by decide, by decide⟩
theorem st_w28 : st_W 28 := fun _ _ => ⟨by decide, by decide⟩
theorem st_w29 : st_W 29 := fun _ _ => ⟨by decide, by decide⟩
theorem st_w30 : st_W 30 := fun _ _ => ⟨by decide, by decide⟩
theorem st_w31 : st_W 31 := fun _ _ => ⟨by decide, by decide⟩
theorem st_w32 : st_W 32 := fun _ _ => ⟨by decide, by decide⟩
theorem st_w33 : st_W 33 := fun _ _ => ⟨by decide, by decide⟩
theorem st_w34 : st_W 34 := fun _ _ => ⟨by decide, by decide⟩
theorem st_w35 : st_W 35 := fun _ _ => ⟨by decide, by decide⟩
theorem st_w36 : st_W 36 := fun _ _ => ⟨by decide, by decide⟩
theorem st_w37 : st_W 37 := fun _ _ => ⟨by decide, by decide⟩
theorem st_w38 : st_W 38 := fun _ _ => ⟨by decide, by decide⟩
theorem st_w39 : st_W 39 := fun _ _ => ⟨by decide, by decide⟩
theorem st_w40 : st_W 40 := fun _ _ => ⟨by decide, by decide⟩
theorem st_w41 : st_W 41 := fun _ _ => ⟨by decide, by decide⟩
theorem st_w42 : st_W 42 := fun _ _ => ⟨by decide, by decide⟩
theorem st_w43 : st_W 43 := fun _ _ => ⟨by decide, by decide⟩
theorem st_w44 : st_W 44 := fun _ _ => ⟨by decide, by decide⟩
theorem st_w45 : st_W 45 := fun _ _ => ⟨by decide, by decide⟩
theorem st_w46 : st_W 46 := fun _ _ => ⟨by decide, by decide⟩
theorem st_w47 : st_W 47 := fun _ _ => ⟨by decide, by decide⟩
theorem st_w48 : st_W 48 := fun _ _ => ⟨by decide, by decide⟩
theorem st_w49 : st_W 49 := fun _ _ => ⟨by decide, by decide⟩
theorem st_w50 : st_W 50
  | 0 => (fun h => absurd rfl h)
  | 1 => (fun h => absurd rfl h)
  | 2 => (fun h => absurd rfl h)
  | 3 => (fun h => absurd rfl h)
  | 4 => (fun h => absurd rfl h)
  | 5 => (fun h => absurd rfl h)
  | 6 => (fun h => absurd rfl h)
  | 7 => (fun h => absurd rfl h)
  | j + 8 => (fun h => absurd (show st_wt 50 (j + 8) = 0 from rfl) h)
theorem st_w51 : st_W 51 := fun j h => absurd (show st_wt 51 j = 0 from rfl) h
theorem st_w52 : st_W 52 := fun j h => absurd (show st_wt 52 j = 0 from rfl) h
theorem st_w53 : st_W 53
  | 0 => (fun h => absurd rfl h)
  | 1 => (fun h => absurd rfl h)
  | j + 2 => (fun h => absurd (show st_wt 53 (j + 2) = 0 from rfl) h)
theorem st_w54 : st_W 54 := fun j h => absurd (show st_wt 54 j = 0 from rfl) h
theorem st_w55 : st_W 55 := fun j h => absurd (show st_wt 55 j = 0 from rfl) h
theorem st_w56 : st_W 56 := fun j h => absurd (show st_wt 56 j = 0 from rfl) h
theorem st_w57 : st_W 57 := fun j h => absurd (show st_wt 57 j = 0 from rfl) h
theorem st_wlt : ∀ k, k < 58 → st_W k := (lt_s (lt_s (lt_s (lt_s (lt_s (lt_s (lt_s (lt_s (lt_s (lt_s (lt_s (lt_s (lt_s (lt_s (lt_s (lt_s (lt_s (lt_s (lt_s (lt_s (lt_s (lt_s (lt_s (lt_s (lt_s (lt_s (lt_s (lt_s (lt_s (lt_s (lt_s (lt_s (lt_s (lt_s (lt_s (lt_s (lt_s (lt_s (lt_s (lt_s (lt_s (lt_s (lt_s (lt_s (lt_s (lt_s (lt_s (lt_s (lt_s (lt_s (lt_s (lt_s (lt_s (lt_s (lt_s (lt_s (lt_s (lt_s lt_0 st_w0) st_w1) st_w2) st_w3) st_w4) st_w5) st_w6) st_w7) st_w8) st_w9) st_w10) st_w11) st_w12) st_w13) st_w14) st_w15) st_w16) st_w17) st_w18) st_w19) st_w20) st_w21) st_w22) st_w23) st_w24) st_w25) st_w26) st_w27) st_w28) st_w29) st_w30) st_w31) st_w32) st_w33) st_w34) st_w35) st_w36) st_w37) st_w38) st_w39) st_w40) st_w41) st_w42) st_w43) st_w44) st_w45) st_w46) st_w47) st_w48) st_w49) st_w50) st_w51) st_w52) st_w53) st_w54) st_w55) st_w56) st_w57)
theorem st_w (k : Nat) : st_W k := by
  rcases Nat.lt_or_ge k 58 with h | h
  · exact st_wlt k h
  · exact fun j hj => absurd (st_wt_out h) hj
theorem st_up_at {σ : st_S} {k i j : Nat} {x : Int32} (k2 i2 j2 : Nat) : (st_up σ k i j x).1 k2 i2 j2 = if k2 = k ∧ i2 = i ∧ j2 = j then x else σ.1 k2 i2 j2 := by
  show (bif Nat.beq k2 k && (Nat.beq i2 i && Nat.beq j2 j) then x else σ.1 k2 i2 j2) = _
  by_cases h : k2 = k ∧ i2 = i ∧ j2 = j
  · obtain ⟨rfl, rfl, rfl⟩ := h
    rw [if_pos ⟨rfl, rfl, rfl⟩]
    simp only [Nat.beq_refl, Bool.and_self, cond_true]
  · rw [if_neg h]
    cases hb : (Nat.beq k2 k && (Nat.beq i2 i && Nat.beq j2 j)) with
    | false => rfl
    | true =>
      simp only [Bool.and_eq_true] at hb
      exact absurd ⟨Nat.eq_of_beq_eq_true hb.1, Nat.eq_of_beq_eq_true hb.2.1, Nat.eq_of_beq_eq_true hb.2.2⟩ h
theorem beq_ff {a b : Nat} (h : a ≠ b) : Nat.beq a b = false := by
  cases hb : Nat.beq a b with
  | false => rfl
  | true => exact absurd (Nat.eq_of_beq_eq_true hb) h
theorem st_rd_up {σ : st_S} {k i j : Nat} {x : Int32} {v : eg_V} (hne : ¬ (k = 24 ∧ j = 0)) (hv : st_ds k i j x = v) (k2 i2 j2 : Nat) : st_rd (st_up σ k i j x) k2 i2 j2 = if k2 = k ∧ i2 = i ∧ j2 = j then v else st_rd σ k2 i2 j2 := by
  unfold st_rd
  cases hb : (Nat.beq k2 24 && Nat.beq j2 0) with
  | true =>
    simp only [Bool.and_eq_true] at hb
    rw [if_neg]
    · rfl
    · intro z
      exact hne ⟨by rw [← z.1]; exact Nat.eq_of_beq_eq_true hb.1, by rw [← z.2.2]; exact Nat.eq_of_beq_eq_true hb.2⟩
  | false =>
    simp only [cond_false]
    rw [st_up_at]
    by_cases h : k2 = k ∧ i2 = i ∧ j2 = j
    · rw [if_pos h, if_pos h, h.1, h.2.1, h.2.2, hv]
    · rw [if_neg h, if_neg h]
theorem st_Lwr : eg_Lwr st_X st_lv := by
  intro σ k i j v σ2 hl hj hv h
  cases v with
  | inl x =>
    replace h : (bif Nat.beq (st_wt k j) 1 then some (st_up σ k i j x) else none) = some σ2 := h
    cases hb : Nat.beq (st_wt k j) 1 with
    | false => rw [hb] at h; cases h
    | true =>
      rw [hb] at h
      cases h
      have h1 := Nat.eq_of_beq_eq_true hb
      have hq := (st_q k j).1 h1 i x
      refine ⟨(st_w k j (by rw [h1]; decide)).2, fun _ _ => Iff.rfl, fun _ _ => rfl, fun k2 i2 j2 _ => st_rd_up hq.2 hq.1 k2 i2 j2⟩
  | inr q =>
    replace h : (bif Nat.beq (st_wt k j) 2 && Nat.beq q.1 50 then some (st_up σ k i j (Int32.ofNat q.2)) else bif Nat.beq (st_wt k j) 3 && Nat.beq q.1 25 then some (σ.1, σ.2.1, σ.2.2.1, q.2, σ.2.2.2.2) else none) = some σ2 := h
    cases hb : (Nat.beq (st_wt k j) 2 && Nat.beq q.1 50) with
    | true =>
      rw [hb] at h
      cases h
      simp only [Bool.and_eq_true] at hb
      have h1 := Nat.eq_of_beq_eq_true hb.1
      have h2 : q.1 = 50 := Nat.eq_of_beq_eq_true hb.2
      have hq := (st_q k j).2.1 h1 i (Int32.ofNat q.2)
      have hlq : q.2 < 16 := by
        rcases hv with z | z | z
        · rw [h2] at z; cases z
        · rw [h2] at z; cases z
        · unfold st_lv at z
          rw [h2] at z
          exact z
      refine ⟨(st_w k j (by rw [h1]; decide)).2, fun _ _ => Iff.rfl, fun _ _ => rfl, fun k2 i2 j2 _ => st_rd_up hq.2 (hq.1.trans ?_) k2 i2 j2⟩
      have : (Int32.ofNat q.2).toNatClampNeg = q.2 := nI_clamp (n := q.2) (by omega)
      rw [this, ← h2]
    | false =>
      rw [hb] at h
      simp only [cond_false] at h
      cases hb2 : (Nat.beq (st_wt k j) 3 && Nat.beq q.1 25) with
      | false => rw [hb2] at h; cases h
      | true =>
        rw [hb2] at h
        cases h
        simp only [Bool.and_eq_true] at hb2
        have h1 := Nat.eq_of_beq_eq_true hb2.1
        have h2 : q.1 = 25 := Nat.eq_of_beq_eq_true hb2.2
        obtain ⟨rfl, rfl⟩ := (st_q k j).2.2 h1
        have hi : i = 0 := by
          have : i < 1 := hl
          omega
        subst hi
        refine ⟨by decide, fun _ _ => Iff.rfl, fun _ _ => rfl, fun k2 i2 j2 hl2 => ?_⟩
        show (bif Nat.beq k2 24 && Nat.beq j2 0 then Sum.inr (25, q.2) else st_ds k2 i2 j2 (σ.1 k2 i2 j2)) = if k2 = 24 ∧ i2 = 0 ∧ j2 = 0 then Sum.inr q else (bif Nat.beq k2 24 && Nat.beq j2 0 then Sum.inr (25, σ.2.2.2.1) else st_ds k2 i2 j2 (σ.1 k2 i2 j2))
        cases hb3 : (Nat.beq k2 24 && Nat.beq j2 0) with
        | true =>
          simp only [Bool.and_eq_true] at hb3
          have e1 : k2 = 24 := Nat.eq_of_beq_eq_true hb3.1
          have e2 : j2 = 0 := Nat.eq_of_beq_eq_true hb3.2
          subst e1; subst e2
          have e3 : i2 = 0 := by
            have : i2 < 1 := hl2
            omega
          subst e3
          rw [if_pos ⟨rfl, rfl, rfl⟩]
          show Sum.inr (25, q.2) = Sum.inr q
          rw [← h2]
        | false =>
          rw [if_neg (fun z => by rw [z.1, z.2.2] at hb3; cases hb3)]
          rfl
theorem st_Lnw : eg_Lnw st_X st_lv := by
  intro σ k n σ2 i hn h
  replace h : st_nw σ k n = some (σ2, i) := h
  unfold st_nw at h
  cases hb : Nat.beq k 25 with
  | false => rw [hb] at h; cases h
  | true =>
    rw [hb] at h
    have hk := Nat.eq_of_beq_eq_true hb
    subst hk
    cases h
    refine ⟨by decide, by decide, ?_, fun k2 i2 => ?_, fun k2 i2 h2 => ?_, fun _ => ?_, fun j hj => ?_⟩
    · show ¬ (if 25 = 25 then σ.2.1 < σ.2.1 else _)
      rw [if_pos rfl]
      exact Nat.lt_irrefl _
    · unfold st_lv
      by_cases hk : k2 = 25
      · subst hk
        rw [if_pos rfl, if_pos rfl]
        show i2 < σ.2.1 + 1 ↔ _
        omega
      · rw [if_neg hk, if_neg hk]
        exact ⟨Or.inl, fun z => z.elim id (fun z => absurd z.1 hk)⟩
    · refine ⟨?_, fun j => ?_⟩
      · show st_sz _ k2 i2 = st_sz σ k2 i2
        unfold st_sz
        cases hb2 : Nat.beq k2 25 with
        | false => rfl
        | true =>
          have hk := Nat.eq_of_beq_eq_true hb2
          subst hk
          show (bif Nat.beq i2 σ.2.1 then n else σ.2.2.1 i2) = σ.2.2.1 i2
          have : i2 < σ.2.1 := h2
          rw [beq_ff (by omega)]
          rfl
      · show st_rd _ k2 i2 j = st_rd σ k2 i2 j
        unfold st_rd
        cases (Nat.beq k2 24 && Nat.beq j 0) with
        | true => rfl
        | false =>
          simp only [cond_false]
          have e1 : (bif Nat.beq k2 25 && Nat.beq i2 σ.2.1 then (0 : Int32) else σ.1 k2 i2 j) = σ.1 k2 i2 j := by
            cases hb2 : Nat.beq k2 25 with
            | false => rfl
            | true =>
              have hk := Nat.eq_of_beq_eq_true hb2
              subst hk
              have : i2 < σ.2.1 := h2
              rw [beq_ff (by omega)]
              rfl
          exact congrArg _ e1
    · show (bif Nat.beq σ.2.1 σ.2.1 then n else _) = n
      rw [Nat.beq_refl]
      rfl
    · show st_ds 25 σ.2.1 j (bif Nat.beq 25 25 && Nat.beq σ.2.1 σ.2.1 then (0 : Int32) else σ.1 25 σ.2.1 j) = eg_dft 25 j
      rw [show Nat.beq σ.2.1 σ.2.1 = true from Nat.beq_refl _]
      rfl
theorem st_Lcp : eg_Lcp st_X st_lv := by
  intro σ q sp d dp n σ2 hq hd hk h
  replace h : st_cp σ q sp d dp n = some σ2 := h
  unfold st_cp at h
  cases hb : Nat.beq d.1 25 with
  | false => rw [hb] at h; cases h
  | true =>
    rw [hb] at h
    have hd25 := Nat.eq_of_beq_eq_true hb
    cases h
    refine ⟨by rw [hd25]; decide, fun _ _ => Iff.rfl, fun _ _ => rfl, fun k2 i2 j2 h2 => ?_⟩
    show st_rd _ k2 i2 j2 = _
    unfold st_rd
    rw [hd25]
    by_cases hk2 : k2 = 25
    · subst hk2
      show st_ds 25 i2 j2 (bif Nat.beq 25 25 && (Nat.beq i2 d.2 && (Nat.ble dp j2 && Nat.blt j2 (dp + n))) then eg_int (st_rd σ q.1 q.2 (sp + (j2 - dp))) else σ.1 25 i2 j2) = if 25 = 25 ∧ i2 = d.2 ∧ dp ≤ j2 ∧ j2 < dp + n then Sum.inl (eg_int (st_rd σ q.1 q.2 (sp + (j2 - dp)))) else st_ds 25 i2 j2 (σ.1 25 i2 j2)
      by_cases hc : i2 = d.2 ∧ dp ≤ j2 ∧ j2 < dp + n
      · rw [if_pos ⟨rfl, hc⟩]
        have e1 : Nat.beq i2 d.2 = true := by rw [hc.1]; exact Nat.beq_refl _
        have e2 : Nat.ble dp j2 = true := Nat.ble_eq_true_of_le hc.2.1
        have e3 : Nat.blt j2 (dp + n) = true := Nat.ble_eq_true_of_le hc.2.2
        rw [e1, e2, e3]
        rfl
      · rw [if_neg (fun z => hc z.2)]
        cases hb2 : (Nat.beq 25 25 && (Nat.beq i2 d.2 && (Nat.ble dp j2 && Nat.blt j2 (dp + n)))) with
        | false => rfl
        | true =>
          simp only [Bool.and_eq_true] at hb2
          exact absurd ⟨Nat.eq_of_beq_eq_true hb2.2.1, Nat.le_of_ble_eq_true hb2.2.2.1, Nat.le_of_ble_eq_true hb2.2.2.2⟩ hc
    · rw [if_neg (fun z => hk2 z.1)]
      show (bif Nat.beq k2 24 && Nat.beq j2 0 then Sum.inr (25, σ.2.2.2.1) else st_ds k2 i2 j2 (bif Nat.beq k2 25 && (Nat.beq i2 d.2 && (Nat.ble dp j2 && Nat.blt j2 (dp + n))) then eg_int (st_rd σ q.1 q.2 (sp + (j2 - dp))) else σ.1 k2 i2 j2)) = (bif Nat.beq k2 24 && Nat.beq j2 0 then Sum.inr (25, σ.2.2.2.1) else st_ds k2 i2 j2 (σ.1 k2 i2 j2))
      rw [beq_ff hk2]
      rfl
theorem st_Lst : eg_Lst st_lv := by
  intro σ
  refine ⟨?_, ?_⟩
  · exact (lt_s (lt_s (lt_s (lt_s (lt_s (lt_s (lt_s (lt_s (lt_s (lt_s (lt_s (lt_s (lt_s (lt_s (lt_s (lt_s (lt_s (lt_s (lt_s (lt_s (lt_s (lt_s lt_0 (Or.inr (Or.inr (show (if 50 = 25 then _ else 0 < st_pop 50) from Nat.le_of_ble_eq_true rfl)))) (Or.inr (Or.inr (show (if 50 = 25 then _ else 1 < st_pop 50) from Nat.le_of_ble_eq_true rfl)))) (Or.inr (Or.inr (show (if 50 = 25 then _ else 2 < st_pop 50) from Nat.le_of_ble_eq_true rfl)))) (Or.inr (Or.inr (show (if 50 = 25 then _ else 3 < st_pop 50) from Nat.le_of_ble_eq_true rfl)))) (Or.inr (Or.inr (show (if 50 = 25 then _ else 4 < st_pop 50) from Nat.le_of_ble_eq_true rfl)))) (Or.inr (Or.inr (show (if 50 = 25 then _ else 5 < st_pop 50) from Nat.le_of_ble_eq_true rfl)))) (Or.inr (Or.inr (show (if 50 = 25 then _ else 6 < st_pop 50) from Nat.le_of_ble_eq_true rfl)))) (Or.inr (Or.inr (show (if 50 = 25 then _ else 7 < st_pop 50) from Nat.le_of_ble_eq_true rfl)))) (Or.inr (Or.inr (show (if 50 = 25 then _ else 8 < st_pop 50) from Nat.le_of_ble_eq_true rfl)))) (Or.inr (Or.inr (show (if 50 = 25 then _ else 9 < st_pop 50) from Nat.le_of_ble_eq_true rfl)))) (Or.inr (Or.inr (show (if 50 = 25 then _ else 10 < st_pop 50) from Nat.le_of_ble_eq_true rfl)))) (Or.inr (Or.inr (show (if 50 = 25 then _ else 11 < st_pop 50) from Nat.le_of_ble_eq_true rfl)))) (Or.inr (Or.inr (show (if 50 = 25 then _ else 12 < st_pop 50) from Nat.le_of_ble_eq_true rfl)))) (Or.inr (Or.inr (show (if 50 = 25 then _ else 13 < st_pop 50) from Nat.le_of_ble_eq_true rfl)))) (Or.inr (Or.inr (show (if 50 = 25 then _ else 14 < st_pop 50) from Nat.le_of_ble_eq_true rfl)))) (Or.inr (Or.inr (show (if 50 = 25 then _ else 15 < st_pop 50) from Nat.le_of_ble_eq_true rfl)))) (Or.inr (Or.inr (show (if 51 = 25 then _ else 0 < st_pop 51) from Nat.le_of_ble_eq_true rfl)))) (Or.inr (Or.inr (show (if 52 = 25 then _ else 0 < st_pop 52) from Nat.le_of_ble_eq_true rfl)))) (trivial)) (Or.inr (Or.inr (show (if 55 = 25 then _ else 0 < st_pop 55) from Nat.le_of_ble_eq_true rfl)))) (Or.inr (Or.inr (show (if 56 = 25 then _ else 0 < st_pop 56) from Nat.le_of_ble_eq_true rfl)))) (Or.inr (Or.inl rfl)))
  · show (if 53 = 25 then _ else 0 < st_pop 53)
    rw [if_neg (by decide)]
    decide
theorem st_Lmn : eg_Lmn st_X st_lv := by
  refine ⟨fun σ k i j v σ2 h k2 i2 h2 => ?_, fun σ k n σ2 i h k2 i2 h2 => ?_, fun σ q sp d dp n σ2 h k2 i2 h2 => ?_⟩
  · replace h : st_wr σ k i j v = some σ2 := h
    have : σ2.2.1 = σ.2.1 := by
      unfold st_wr at h
      split at h
      · simp only [cond_eq_ite] at h
        split at h
        · cases h; rfl
        · cases h
      · simp only [cond_eq_ite] at h
        split at h
        · cases h; rfl
        · split at h
          · cases h; rfl
          · cases h
    unfold st_lv at h2 ⊢
    rw [this]
    exact h2
  · replace h : st_nw σ k n = some (σ2, i) := h
    have : σ2.2.1 = σ.2.1 + 1 := by
      unfold st_nw at h
      simp only [cond_eq_ite] at h
      split at h
      · cases h; rfl
      · cases h
    unfold st_lv at h2 ⊢
    rw [this]
    split
    · rename_i h9
      rw [if_pos h9] at h2
      omega
    · rename_i h9
      rw [if_neg h9] at h2
      exact h2
  · replace h : st_cp σ q sp d dp n = some σ2 := h
    have : σ2.2.1 = σ.2.1 := by
      unfold st_cp at h
      simp only [cond_eq_ite] at h
      split at h
      · cases h; rfl
      · cases h
    unfold st_lv at h2 ⊢
    rw [this]
    exact h2
end
