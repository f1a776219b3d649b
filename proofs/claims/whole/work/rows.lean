section
-- from the skeleton's PART A and kit/laws/EXCEPTIONS.to-paste (starting texts)
/-- a private method of a class that the tables say can be made, by its rows of tables_1 -/
def lw_okq (q : MethodName × Nat) : Prop := (q.1.cls ≠ "java/lang/invoke/MethodHandle" ∧ q.1.cls ≠ "java/lang/invoke/VarHandle") ∧ Cond.instantiable q.1.cls q.2 ∈ tables_1 ∧ Cond.privateMethod q.1 ∈ tables_1 ∧ Cond.instanceMethod q.1 ∈ tables_1
theorem lw_p0 : lw_okq (⟨"java/lang/Throwable", "fillInStackTrace", "(I)Ljava/lang/Throwable;"⟩, 6) := ⟨⟨by decide +kernel, by decide +kernel⟩, List.mem_of_getElem? (i := 509) (by decide +kernel), List.mem_of_getElem? (i := 507) (by decide +kernel), List.mem_of_getElem? (i := 508) (by decide +kernel)⟩
theorem lw_p1 : lw_okq (⟨"DraftMerge", "editFault", "(III)I"⟩, 4) := ⟨⟨by decide +kernel, by decide +kernel⟩, List.mem_of_getElem? (i := 18) (by decide +kernel), List.mem_of_getElem? (i := 604) (by decide +kernel), List.mem_of_getElem? (i := 605) (by decide +kernel)⟩
theorem lw_p2 : lw_okq (⟨"DraftMerge", "hasPosition", "(II)Z"⟩, 4) := ⟨⟨by decide +kernel, by decide +kernel⟩, List.mem_of_getElem? (i := 18) (by decide +kernel), List.mem_of_getElem? (i := 608) (by decide +kernel), List.mem_of_getElem? (i := 609) (by decide +kernel)⟩
theorem lw_p3 : lw_okq (⟨"DraftMerge", "moveFault", "(III)I"⟩, 4) := ⟨⟨by decide +kernel, by decide +kernel⟩, List.mem_of_getElem? (i := 18) (by decide +kernel), List.mem_of_getElem? (i := 644) (by decide +kernel), List.mem_of_getElem? (i := 645) (by decide +kernel)⟩
theorem lw_p4 : lw_okq (⟨"DraftMerge", "insertFault", "(III)I"⟩, 4) := ⟨⟨by decide +kernel, by decide +kernel⟩, List.mem_of_getElem? (i := 18) (by decide +kernel), List.mem_of_getElem? (i := 663) (by decide +kernel), List.mem_of_getElem? (i := 664) (by decide +kernel)⟩
theorem lw_p5 : lw_okq (⟨"DraftMerge", "removeFault", "(II)I"⟩, 4) := ⟨⟨by decide +kernel, by decide +kernel⟩, List.mem_of_getElem? (i := 18) (by decide +kernel), List.mem_of_getElem? (i := 682) (by decide +kernel), List.mem_of_getElem? (i := 683) (by decide +kernel)⟩
theorem lw_p6 : lw_okq (⟨"DraftMerge", "executeText", "()I"⟩, 4) := ⟨⟨by decide +kernel, by decide +kernel⟩, List.mem_of_getElem? (i := 18) (by decide +kernel), List.mem_of_getElem? (i := 835) (by decide +kernel), List.mem_of_getElem? (i := 836) (by decide +kernel)⟩
theorem lw_p7 : lw_okq (⟨"DraftMerge", "executeCommand", "()Z"⟩, 4) := ⟨⟨by decide +kernel, by decide +kernel⟩, List.mem_of_getElem? (i := 18) (by decide +kernel), List.mem_of_getElem? (i := 841) (by decide +kernel), List.mem_of_getElem? (i := 842) (by decide +kernel)⟩
theorem lw_p8 : lw_okq (⟨"DraftMergeModel", "isChanged", "(I)Z"⟩, 22) := ⟨⟨by decide +kernel, by decide +kernel⟩, List.mem_of_getElem? (i := 858) (by decide +kernel), List.mem_of_getElem? (i := 943) (by decide +kernel), List.mem_of_getElem? (i := 944) (by decide +kernel)⟩
theorem lw_p9 : lw_okq (⟨"DraftMergeModel", "sizeOf", "(I)I"⟩, 22) := ⟨⟨by decide +kernel, by decide +kernel⟩, List.mem_of_getElem? (i := 858) (by decide +kernel), List.mem_of_getElem? (i := 947) (by decide +kernel), List.mem_of_getElem? (i := 948) (by decide +kernel)⟩
theorem lw_p10 : lw_okq (⟨"DraftMergeModel", "numberAt", "(II)I"⟩, 22) := ⟨⟨by decide +kernel, by decide +kernel⟩, List.mem_of_getElem? (i := 858) (by decide +kernel), List.mem_of_getElem? (i := 954) (by decide +kernel), List.mem_of_getElem? (i := 955) (by decide +kernel)⟩
theorem lw_p11 : lw_okq (⟨"DraftMergeModel", "insideAt", "(II)I"⟩, 22) := ⟨⟨by decide +kernel, by decide +kernel⟩, List.mem_of_getElem? (i := 858) (by decide +kernel), List.mem_of_getElem? (i := 958) (by decide +kernel), List.mem_of_getElem? (i := 959) (by decide +kernel)⟩
theorem lw_p12 : lw_okq (⟨"DraftMergeModel", "refused", "(I)Z"⟩, 22) := ⟨⟨by decide +kernel, by decide +kernel⟩, List.mem_of_getElem? (i := 858) (by decide +kernel), List.mem_of_getElem? (i := 962) (by decide +kernel), List.mem_of_getElem? (i := 963) (by decide +kernel)⟩
theorem lw_p13 : lw_okq (⟨"DraftMergeModel", "saves", "()V"⟩, 22) := ⟨⟨by decide +kernel, by decide +kernel⟩, List.mem_of_getElem? (i := 858) (by decide +kernel), List.mem_of_getElem? (i := 966) (by decide +kernel), List.mem_of_getElem? (i := 967) (by decide +kernel)⟩
theorem lw_p14 : lw_okq (⟨"DraftMergeModel", "puts", "(IIII)V"⟩, 22) := ⟨⟨by decide +kernel, by decide +kernel⟩, List.mem_of_getElem? (i := 858) (by decide +kernel), List.mem_of_getElem? (i := 970) (by decide +kernel), List.mem_of_getElem? (i := 971) (by decide +kernel)⟩
theorem lw_p15 : lw_okq (⟨"DraftMergeModel", "barEdit", "(III)I"⟩, 22) := ⟨⟨by decide +kernel, by decide +kernel⟩, List.mem_of_getElem? (i := 858) (by decide +kernel), List.mem_of_getElem? (i := 978) (by decide +kernel), List.mem_of_getElem? (i := 979) (by decide +kernel)⟩
def lw_privs_1 : List (MethodName × Nat) := [(⟨"java/lang/Throwable", "fillInStackTrace", "(I)Ljava/lang/Throwable;"⟩, 6), (⟨"DraftMerge", "editFault", "(III)I"⟩, 4), (⟨"DraftMerge", "hasPosition", "(II)Z"⟩, 4), (⟨"DraftMerge", "moveFault", "(III)I"⟩, 4), (⟨"DraftMerge", "insertFault", "(III)I"⟩, 4), (⟨"DraftMerge", "removeFault", "(II)I"⟩, 4), (⟨"DraftMerge", "executeText", "()I"⟩, 4), (⟨"DraftMerge", "executeCommand", "()Z"⟩, 4), (⟨"DraftMergeModel", "isChanged", "(I)Z"⟩, 22), (⟨"DraftMergeModel", "sizeOf", "(I)I"⟩, 22), (⟨"DraftMergeModel", "numberAt", "(II)I"⟩, 22), (⟨"DraftMergeModel", "insideAt", "(II)I"⟩, 22), (⟨"DraftMergeModel", "refused", "(I)Z"⟩, 22), (⟨"DraftMergeModel", "saves", "()V"⟩, 22), (⟨"DraftMergeModel", "puts", "(IIII)V"⟩, 22), (⟨"DraftMergeModel", "barEdit", "(III)I"⟩, 22)]
theorem lw_r1 : ∀ q ∈ lw_privs_1, lw_okq q := List.forall_mem_cons.mpr ⟨lw_p0, List.forall_mem_cons.mpr ⟨lw_p1, List.forall_mem_cons.mpr ⟨lw_p2, List.forall_mem_cons.mpr ⟨lw_p3, List.forall_mem_cons.mpr ⟨lw_p4, List.forall_mem_cons.mpr ⟨lw_p5, List.forall_mem_cons.mpr ⟨lw_p6, List.forall_mem_cons.mpr ⟨lw_p7, List.forall_mem_cons.mpr ⟨lw_p8, List.forall_mem_cons.mpr ⟨lw_p9, List.forall_mem_cons.mpr ⟨lw_p10, List.forall_mem_cons.mpr ⟨lw_p11, List.forall_mem_cons.mpr ⟨lw_p12, List.forall_mem_cons.mpr ⟨lw_p13, List.forall_mem_cons.mpr ⟨lw_p14, List.forall_mem_cons.mpr ⟨lw_p15, fun _ h => absurd h List.not_mem_nil⟩⟩⟩⟩⟩⟩⟩⟩⟩⟩⟩⟩⟩⟩⟩⟩
theorem lw_p16 : lw_okq (⟨"DraftMergeModel", "isThere", "(II)Z"⟩, 22) := ⟨⟨by decide +kernel, by decide +kernel⟩, List.mem_of_getElem? (i := 858) (by decide +kernel), List.mem_of_getElem? (i := 982) (by decide +kernel), List.mem_of_getElem? (i := 983) (by decide +kernel)⟩
theorem lw_p17 : lw_okq (⟨"DraftMergeModel", "edits", "(III)I"⟩, 22) := ⟨⟨by decide +kernel, by decide +kernel⟩, List.mem_of_getElem? (i := 858) (by decide +kernel), List.mem_of_getElem? (i := 989) (by decide +kernel), List.mem_of_getElem? (i := 990) (by decide +kernel)⟩
theorem lw_p18 : lw_okq (⟨"DraftMergeModel", "barMove", "(III)I"⟩, 22) := ⟨⟨by decide +kernel, by decide +kernel⟩, List.mem_of_getElem? (i := 858) (by decide +kernel), List.mem_of_getElem? (i := 997) (by decide +kernel), List.mem_of_getElem? (i := 998) (by decide +kernel)⟩
theorem lw_p19 : lw_okq (⟨"DraftMergeModel", "shifts", "(III)I"⟩, 22) := ⟨⟨by decide +kernel, by decide +kernel⟩, List.mem_of_getElem? (i := 858) (by decide +kernel), List.mem_of_getElem? (i := 1001) (by decide +kernel), List.mem_of_getElem? (i := 1002) (by decide +kernel)⟩
theorem lw_p20 : lw_okq (⟨"DraftMergeModel", "takes", "(II)V"⟩, 22) := ⟨⟨by decide +kernel, by decide +kernel⟩, List.mem_of_getElem? (i := 858) (by decide +kernel), List.mem_of_getElem? (i := 1005) (by decide +kernel), List.mem_of_getElem? (i := 1006) (by decide +kernel)⟩
theorem lw_p21 : lw_okq (⟨"DraftMergeModel", "barInsert", "(III)I"⟩, 22) := ⟨⟨by decide +kernel, by decide +kernel⟩, List.mem_of_getElem? (i := 858) (by decide +kernel), List.mem_of_getElem? (i := 1013) (by decide +kernel), List.mem_of_getElem? (i := 1014) (by decide +kernel)⟩
theorem lw_p22 : lw_okq (⟨"DraftMergeModel", "inserts", "(III)I"⟩, 22) := ⟨⟨by decide +kernel, by decide +kernel⟩, List.mem_of_getElem? (i := 858) (by decide +kernel), List.mem_of_getElem? (i := 1017) (by decide +kernel), List.mem_of_getElem? (i := 1018) (by decide +kernel)⟩
theorem lw_p23 : lw_okq (⟨"DraftMergeModel", "barRemove", "(II)I"⟩, 22) := ⟨⟨by decide +kernel, by decide +kernel⟩, List.mem_of_getElem? (i := 858) (by decide +kernel), List.mem_of_getElem? (i := 1025) (by decide +kernel), List.mem_of_getElem? (i := 1026) (by decide +kernel)⟩
theorem lw_p24 : lw_okq (⟨"DraftMergeModel", "removes", "(II)I"⟩, 22) := ⟨⟨by decide +kernel, by decide +kernel⟩, List.mem_of_getElem? (i := 858) (by decide +kernel), List.mem_of_getElem? (i := 1029) (by decide +kernel), List.mem_of_getElem? (i := 1030) (by decide +kernel)⟩
theorem lw_p25 : lw_okq (⟨"DraftMergeModel", "keeps", "(I)V"⟩, 22) := ⟨⟨by decide +kernel, by decide +kernel⟩, List.mem_of_getElem? (i := 858) (by decide +kernel), List.mem_of_getElem? (i := 1053) (by decide +kernel), List.mem_of_getElem? (i := 1054) (by decide +kernel)⟩
theorem lw_p26 : lw_okq (⟨"DraftMergeModel", "changeOf", "(II)I"⟩, 22) := ⟨⟨by decide +kernel, by decide +kernel⟩, List.mem_of_getElem? (i := 858) (by decide +kernel), List.mem_of_getElem? (i := 1057) (by decide +kernel), List.mem_of_getElem? (i := 1058) (by decide +kernel)⟩
theorem lw_p27 : lw_okq (⟨"DraftMergeModel", "has", "(II)Z"⟩, 22) := ⟨⟨by decide +kernel, by decide +kernel⟩, List.mem_of_getElem? (i := 858) (by decide +kernel), List.mem_of_getElem? (i := 1061) (by decide +kernel), List.mem_of_getElem? (i := 1062) (by decide +kernel)⟩
theorem lw_p28 : lw_okq (⟨"DraftMergeModel", "placeOf", "(II)I"⟩, 22) := ⟨⟨by decide +kernel, by decide +kernel⟩, List.mem_of_getElem? (i := 858) (by decide +kernel), List.mem_of_getElem? (i := 1065) (by decide +kernel), List.mem_of_getElem? (i := 1066) (by decide +kernel)⟩
theorem lw_p29 : lw_okq (⟨"DraftMergeModel", "doesEdit", "(II)Z"⟩, 22) := ⟨⟨by decide +kernel, by decide +kernel⟩, List.mem_of_getElem? (i := 858) (by decide +kernel), List.mem_of_getElem? (i := 1069) (by decide +kernel), List.mem_of_getElem? (i := 1070) (by decide +kernel)⟩
theorem lw_p30 : lw_okq (⟨"DraftMergeModel", "contentIn", "(II)I"⟩, 22) := ⟨⟨by decide +kernel, by decide +kernel⟩, List.mem_of_getElem? (i := 858) (by decide +kernel), List.mem_of_getElem? (i := 1073) (by decide +kernel), List.mem_of_getElem? (i := 1074) (by decide +kernel)⟩
theorem lw_p31 : lw_okq (⟨"DraftMergeModel", "doesMove", "(II)Z"⟩, 22) := ⟨⟨by decide +kernel, by decide +kernel⟩, List.mem_of_getElem? (i := 858) (by decide +kernel), List.mem_of_getElem? (i := 1077) (by decide +kernel), List.mem_of_getElem? (i := 1078) (by decide +kernel)⟩
def lw_privs_2 : List (MethodName × Nat) := [(⟨"DraftMergeModel", "isThere", "(II)Z"⟩, 22), (⟨"DraftMergeModel", "edits", "(III)I"⟩, 22), (⟨"DraftMergeModel", "barMove", "(III)I"⟩, 22), (⟨"DraftMergeModel", "shifts", "(III)I"⟩, 22), (⟨"DraftMergeModel", "takes", "(II)V"⟩, 22), (⟨"DraftMergeModel", "barInsert", "(III)I"⟩, 22), (⟨"DraftMergeModel", "inserts", "(III)I"⟩, 22), (⟨"DraftMergeModel", "barRemove", "(II)I"⟩, 22), (⟨"DraftMergeModel", "removes", "(II)I"⟩, 22), (⟨"DraftMergeModel", "keeps", "(I)V"⟩, 22), (⟨"DraftMergeModel", "changeOf", "(II)I"⟩, 22), (⟨"DraftMergeModel", "has", "(II)Z"⟩, 22), (⟨"DraftMergeModel", "placeOf", "(II)I"⟩, 22), (⟨"DraftMergeModel", "doesEdit", "(II)Z"⟩, 22), (⟨"DraftMergeModel", "contentIn", "(II)I"⟩, 22), (⟨"DraftMergeModel", "doesMove", "(II)Z"⟩, 22)]
theorem lw_r2 : ∀ q ∈ lw_privs_2, lw_okq q := List.forall_mem_cons.mpr ⟨lw_p16, List.forall_mem_cons.mpr ⟨lw_p17, List.forall_mem_cons.mpr ⟨lw_p18, List.forall_mem_cons.mpr ⟨lw_p19, List.forall_mem_cons.mpr ⟨lw_p20, List.forall_mem_cons.mpr ⟨lw_p21, List.forall_mem_cons.mpr ⟨lw_p22, List.forall_mem_cons.mpr ⟨lw_p23, List.forall_mem_cons.mpr ⟨lw_p24, List.forall_mem_cons.mpr ⟨lw_p25, List.forall_mem_cons.mpr ⟨lw_p26, List.forall_mem_cons.mpr ⟨lw_p27, List.forall_mem_cons.mpr ⟨lw_p28, List.forall_mem_cons.mpr ⟨lw_p29, List.forall_mem_cons.mpr ⟨lw_p30, List.forall_mem_cons.mpr ⟨lw_p31, fun _ h => absurd h List.not_mem_nil⟩⟩⟩⟩⟩⟩⟩⟩⟩⟩⟩⟩⟩⟩⟩⟩
theorem lw_p32 : lw_okq (⟨"DraftMergeModel", "merges", "()V"⟩, 22) := ⟨⟨by decide +kernel, by decide +kernel⟩, List.mem_of_getElem? (i := 858) (by decide +kernel), List.mem_of_getElem? (i := 1089) (by decide +kernel), List.mem_of_getElem? (i := 1090) (by decide +kernel)⟩
theorem lw_p33 : lw_okq (⟨"DraftMergeModel", "judges", "(I)V"⟩, 22) := ⟨⟨by decide +kernel, by decide +kernel⟩, List.mem_of_getElem? (i := 858) (by decide +kernel), List.mem_of_getElem? (i := 1093) (by decide +kernel), List.mem_of_getElem? (i := 1094) (by decide +kernel)⟩
theorem lw_p34 : lw_okq (⟨"DraftMergeModel", "chosen", "(II)I"⟩, 22) := ⟨⟨by decide +kernel, by decide +kernel⟩, List.mem_of_getElem? (i := 858) (by decide +kernel), List.mem_of_getElem? (i := 1097) (by decide +kernel), List.mem_of_getElem? (i := 1098) (by decide +kernel)⟩
theorem lw_p35 : lw_okq (⟨"DraftMergeModel", "ahead", "(II)I"⟩, 22) := ⟨⟨by decide +kernel, by decide +kernel⟩, List.mem_of_getElem? (i := 858) (by decide +kernel), List.mem_of_getElem? (i := 1101) (by decide +kernel), List.mem_of_getElem? (i := 1102) (by decide +kernel)⟩
theorem lw_p36 : lw_okq (⟨"DraftMergeModel", "lays", "(III)V"⟩, 22) := ⟨⟨by decide +kernel, by decide +kernel⟩, List.mem_of_getElem? (i := 858) (by decide +kernel), List.mem_of_getElem? (i := 1105) (by decide +kernel), List.mem_of_getElem? (i := 1106) (by decide +kernel)⟩
theorem lw_p37 : lw_okq (⟨"DraftMergeModel", "laysOf", "(I)V"⟩, 22) := ⟨⟨by decide +kernel, by decide +kernel⟩, List.mem_of_getElem? (i := 858) (by decide +kernel), List.mem_of_getElem? (i := 1109) (by decide +kernel), List.mem_of_getElem? (i := 1110) (by decide +kernel)⟩
theorem lw_p38 : lw_okq (⟨"DraftMergeModel", "mergedAt", "(I)I"⟩, 22) := ⟨⟨by decide +kernel, by decide +kernel⟩, List.mem_of_getElem? (i := 858) (by decide +kernel), List.mem_of_getElem? (i := 1113) (by decide +kernel), List.mem_of_getElem? (i := 1114) (by decide +kernel)⟩
theorem lw_p39 : lw_okq (⟨"DraftMergeModel", "openOnes", "()I"⟩, 22) := ⟨⟨by decide +kernel, by decide +kernel⟩, List.mem_of_getElem? (i := 858) (by decide +kernel), List.mem_of_getElem? (i := 1149) (by decide +kernel), List.mem_of_getElem? (i := 1150) (by decide +kernel)⟩
theorem lw_p40 : lw_okq (⟨"DraftMergeModel", "isWhole", "()Z"⟩, 22) := ⟨⟨by decide +kernel, by decide +kernel⟩, List.mem_of_getElem? (i := 858) (by decide +kernel), List.mem_of_getElem? (i := 1177) (by decide +kernel), List.mem_of_getElem? (i := 1178) (by decide +kernel)⟩
theorem lw_p41 : lw_okq (⟨"DraftMergeModel", "command", "()V"⟩, 22) := ⟨⟨by decide +kernel, by decide +kernel⟩, List.mem_of_getElem? (i := 858) (by decide +kernel), List.mem_of_getElem? (i := 1181) (by decide +kernel), List.mem_of_getElem? (i := 1182) (by decide +kernel)⟩
theorem lw_p42 : lw_okq (⟨"DraftMergeModel", "digit", "(I)I"⟩, 22) := ⟨⟨by decide +kernel, by decide +kernel⟩, List.mem_of_getElem? (i := 858) (by decide +kernel), List.mem_of_getElem? (i := 1185) (by decide +kernel), List.mem_of_getElem? (i := 1186) (by decide +kernel)⟩
theorem lw_p43 : lw_okq (⟨"DraftMergeModel", "next", "()I"⟩, 22) := ⟨⟨by decide +kernel, by decide +kernel⟩, List.mem_of_getElem? (i := 858) (by decide +kernel), List.mem_of_getElem? (i := 1189) (by decide +kernel), List.mem_of_getElem? (i := 1190) (by decide +kernel)⟩
theorem lw_p44 : lw_okq (⟨"DraftMergeModel", "number", "(I)I"⟩, 22) := ⟨⟨by decide +kernel, by decide +kernel⟩, List.mem_of_getElem? (i := 858) (by decide +kernel), List.mem_of_getElem? (i := 1193) (by decide +kernel), List.mem_of_getElem? (i := 1194) (by decide +kernel)⟩
theorem lw_p45 : lw_okq (⟨"DraftMergeModel", "sign", "(I)V"⟩, 22) := ⟨⟨by decide +kernel, by decide +kernel⟩, List.mem_of_getElem? (i := 858) (by decide +kernel), List.mem_of_getElem? (i := 1197) (by decide +kernel), List.mem_of_getElem? (i := 1198) (by decide +kernel)⟩
theorem lw_p46 : lw_okq (⟨"DraftMergeModel", "bars", "()I"⟩, 22) := ⟨⟨by decide +kernel, by decide +kernel⟩, List.mem_of_getElem? (i := 858) (by decide +kernel), List.mem_of_getElem? (i := 1205) (by decide +kernel), List.mem_of_getElem? (i := 1206) (by decide +kernel)⟩
theorem lw_p47 : lw_okq (⟨"DraftMergeModel", "does", "()I"⟩, 22) := ⟨⟨by decide +kernel, by decide +kernel⟩, List.mem_of_getElem? (i := 858) (by decide +kernel), List.mem_of_getElem? (i := 1209) (by decide +kernel), List.mem_of_getElem? (i := 1210) (by decide +kernel)⟩
def lw_privs_3 : List (MethodName × Nat) := [(⟨"DraftMergeModel", "merges", "()V"⟩, 22), (⟨"DraftMergeModel", "judges", "(I)V"⟩, 22), (⟨"DraftMergeModel", "chosen", "(II)I"⟩, 22), (⟨"DraftMergeModel", "ahead", "(II)I"⟩, 22), (⟨"DraftMergeModel", "lays", "(III)V"⟩, 22), (⟨"DraftMergeModel", "laysOf", "(I)V"⟩, 22), (⟨"DraftMergeModel", "mergedAt", "(I)I"⟩, 22), (⟨"DraftMergeModel", "openOnes", "()I"⟩, 22), (⟨"DraftMergeModel", "isWhole", "()Z"⟩, 22), (⟨"DraftMergeModel", "command", "()V"⟩, 22), (⟨"DraftMergeModel", "digit", "(I)I"⟩, 22), (⟨"DraftMergeModel", "next", "()I"⟩, 22), (⟨"DraftMergeModel", "number", "(I)I"⟩, 22), (⟨"DraftMergeModel", "sign", "(I)V"⟩, 22), (⟨"DraftMergeModel", "bars", "()I"⟩, 22), (⟨"DraftMergeModel", "does", "()I"⟩, 22)]
theorem lw_r3 : ∀ q ∈ lw_privs_3, lw_okq q := List.forall_mem_cons.mpr ⟨lw_p32, List.forall_mem_cons.mpr ⟨lw_p33, List.forall_mem_cons.mpr ⟨lw_p34, List.forall_mem_cons.mpr ⟨lw_p35, List.forall_mem_cons.mpr ⟨lw_p36, List.forall_mem_cons.mpr ⟨lw_p37, List.forall_mem_cons.mpr ⟨lw_p38, List.forall_mem_cons.mpr ⟨lw_p39, List.forall_mem_cons.mpr ⟨lw_p40, List.forall_mem_cons.mpr ⟨lw_p41, List.forall_mem_cons.mpr ⟨lw_p42, List.forall_mem_cons.mpr ⟨lw_p43, List.forall_mem_cons.mpr ⟨lw_p44, List.forall_mem_cons.mpr ⟨lw_p45, List.forall_mem_cons.mpr ⟨lw_p46, List.forall_mem_cons.mpr ⟨lw_p47, fun _ h => absurd h List.not_mem_nil⟩⟩⟩⟩⟩⟩⟩⟩⟩⟩⟩⟩⟩⟩⟩⟩
def lw_privs : List (MethodName × Nat) := lw_privs_1 ++ (lw_privs_2 ++ (lw_privs_3))
def lw_tbl : List Cond := k2_sels lw_privs ++ tables_1
theorem lw_privs_ok : ∀ q ∈ lw_privs, lw_okq q := by
  show ∀ q ∈ lw_privs_1 ++ (lw_privs_2 ++ (lw_privs_3)), lw_okq q
  exact List.forall_mem_append.mpr ⟨lw_r1, List.forall_mem_append.mpr ⟨lw_r2, lw_r3⟩⟩
/-- the streams that the claim lets the run draw from -/
abbrev lw_cs : List Choice := [Jvm.Choice.named "NaN.bits"]
theorem lw_bits : nanBits ∈ lw_cs := by first | decide | exact List.mem_cons_self | simp [lw_cs, nanBits]

/-! ===== BEGIN words of one list among another's, by their places ===== -/
theorem goodIn_r {big : List Cond} (ws : List Cond) (ps : List Nat) (hp : ws = ps.filterMap (fun i => big[i]?)) (h : ws.all goodWord = true) : GoodIn big ws := by
  intro w hw
  have h1 := List.all_eq_true.mp h w hw
  rw [hp] at hw
  obtain ⟨i, -, hi⟩ := List.mem_filterMap.mp hw
  have hm : w ∈ big := by first | exact List.mem_of_getElem? hi | exact List.getElem?_mem hi
  exact ⟨hm, good_of_word h1⟩
theorem goodIn_app {big a b : List Cond} (ha : GoodIn big a) (hb : GoodIn big b) : GoodIn big (a ++ b) := fun w h => (List.mem_append.mp h).elim (ha w) (hb w)
theorem goodIn_ca {big a b : List Cond} {c : Cond} (ha : GoodIn big (c :: a)) (hb : GoodIn big b) : GoodIn big (c :: (a ++ b)) := fun w h => (List.mem_cons.mp h).elim (fun e => ha w (List.mem_cons.mpr (Or.inl e))) (fun h => (List.mem_append.mp h).elim (fun h => ha w (List.mem_cons.mpr (Or.inr h))) (hb w))
theorem goodIn_sub {big ws : List Cond} (hm : ∀ w ∈ ws, w ∈ big) (h : ws.all goodWord = true) : GoodIn big ws := fun w hw => ⟨hm w hw, good_of_word (List.all_eq_true.mp h w hw)⟩
/-! ===== END ===== -/

/-! ===== BEGIN exceptions that leave a method, and their catching by the caller (launches without stack traces) ===== -/
section VXA
/-! The laws vx_back, vx_callV, vx_callS, vx_callSW, vx_throw0, vx_throwS follow proofs of the library, with one case more: JvmDerived/Free/Laws.lean (Back.of_free), Shelf42/LK1.lean (callV, callS), Shelf/KitTraced.lean (throwNew0V, throwNewS). -/
/-- where a method has thrown q: the class by its name, the cell, what was written, the world -/
def vx_T (XC : String → State → State → Prop) (st : State) (q : Addr) (t : State) (mc ms : Nat) (free : Addr → Prop) : Prop :=
  ∃ (E : String) (ce : Cell) (L : List Loc), XC E st t ∧ t.heap[q]? = some ce ∧ ce.vm = .none ∧ st.vm.findClass E = some ce.cls ∧ st.WarmedH t.vm ∧ st.sameButNew ({ t with vm := st.vm } : State) L mc ms ∧ ∀ z ∈ L, free z.base
def vx_Q (Qc : Array Value → State → Outcome → State → Prop) (XC : String → State → State → Prop) (mc ms : Nat) (free : Addr → Prop) : Array Value → State → Outcome → State → Prop := fun a st o t =>
  (Qc a st o t ∧ ∃ L, FrameEnd st o t L mc ms ∧ ∀ q ∈ L, free q.base) ∨ ∃ q, o = .threw q ∧ vx_T XC st q t mc ms free
/-- a callee that returns or throws -/
def vx_Met (l : Launch) (y : MethodName) (ws : List Cond) (rm : Room) (Pc : Array Value → State → Prop) (Qc : Array Value → State → Outcome → State → Prop) (XC : String → State → State → Prop) (mc ms : Nat) (free : Addr → Prop) : Prop :=
  MetFree l y (headSpec ws rm) Pc (fun _ _ _ _ _ => True) (vx_Q Qc XC mc ms free)
def vx_Post (XC : String → State → State → Prop) (mc ms : Nat) (free : Addr → Prop) : Pt → Array Value → Addr → Pt → Prop := fun A a q B =>
  ∃ (g : JFrame) (mk : MethodId) (t : State) (L : List Loc) (E : String) (ce : Cell), B.U.heap = t.heap ∧ B.U.vm = t.vm ∧ XC E (A.U.calling g mk a) t ∧ t.heap[q]? = some ce ∧ ce.vm = .none ∧ A.U.vm.findClass E = some ce.cls ∧ B.locs = A.locs ++ L ∧ (∀ z ∈ L, free z.base) ∧ B.cells = A.cells + mc ∧ B.slots = A.slots + ms
def vx_Back (l : Launch) (R : Room) (p : Program) (e : Env) (below : List Frame) (s : State) (sargs : Array Value) (y : MethodName) (len W9 : Nat)
    (Pre : Pt → Array Value → Prop) (Post : Pt → Array Value → Option Value → Pt → Prop) (PostX : Pt → Array Value → Addr → Pt → Prop) : Prop :=
  ∀ (m : MethodId) (meth : Method) (c : Code) (A : Pt) (g : JFrame) (ig : Instr) (mk : MethodId) (a : Array Value),
    Stand p l e R s m sargs below meth c A.U A.locs A.cells A.slots → g.method = m → g.locals.size = c.maxLocals → decode c.code g.pc = .ok (ig, len) →
    2 * g.monitorRoom + (g.stack.map fun v => v.category).sum ≤ W9 → A.U.methodNamed? y = some mk → Pre A a →
    (∃ (v : Option Value) (B : Pt), Stand p l e R s m sargs below meth c B.U B.locs B.cells B.slots ∧ Post A a v B ∧
      Steps p.tables e below (doInvoke e (A.U.setTop g) [] mk a).1 (B.U.setTop { g with pc := g.pc + len, stack := v.toList ++ g.stack })) ∨
    (∃ (q : Addr) (B : Pt), Stand p l e R s m sargs below meth c B.U B.locs B.cells B.slots ∧ PostX A a q B ∧
      Steps p.tables e below (doInvoke e (A.U.setTop g) [] mk a).1 ((B.U.setTop g).pushFrame (.throwing q)))
section Payer
variable {l : Launch} {R : Room} {p : Program} {e : Env} {below : List Frame} {s : State} {sargs : Array Value} {y : MethodName} {len W9 : Nat}
theorem vx_back {ws : List Cond} {rm : Room} {Pc : Array Value → State → Prop} {Qc : Array Value → State → Outcome → State → Prop} {XC : String → State → State → Prop} {mc ms : Nat} {free : Addr → Prop} {bytes : ByteArray} {maxL : Nat} {ret : Option FieldType}
    (hM : vx_Met l y ws rm Pc Qc XC mc ms free) (hblind : FrameBlind Pc) (hrc : rm.cells = mc) (hrs : rm.slots = ms)
    (hframes : rm.frames + 1 ≤ R.frames) (hlocals : W9 + (maxL + 11) + rm.locals ≤ R.locals)
    (hws : ∀ w ∈ ws, ∀ a' U, s.WarmedH U.vm → w.before a' U = true) (hcode : Cond.code y bytes maxL ret ∈ ws) (hinit : ∀ a' U, s.WarmedH U.vm → (Cond.initialized y.cls).before a' U = true) :
    vx_Back l R p e below s sargs y len W9 (PreOf R mc ms Pc) (PostOf Qc mc ms free) (vx_Post XC mc ms free) := by
  intro m meth c A g ig mk a X hg hsize hdg hW hn hp
  have h1 : (headSpec ws rm).pre.before a A.U = true := atoms_intro fun w hw => hws w hw _ _ X.warmed
  have h2 : (Cond.code y bytes maxL ret).before a A.U = true := hws _ hcode _ _ X.warmed
  have h3 : (Cond.initialized y.cls).before a A.U = true := hinit _ _ X.warmed
  have h4 : A.cells + (headSpec ws rm).room.cells ≤ R.cells := by rw [show (headSpec ws rm).room.cells = mc from hrc]; exact hp.1
  have h5 : A.slots + (headSpec ws rm).room.slots ≤ R.slots := by rw [show (headSpec ws rm).room.slots = ms from hrs]; exact hp.2.1
  have hPc : Pc a (A.U.calling g mk a) := hblind _ _ _ _ hp.2.2
  obtain ⟨U, Ls, c0, s0⟩ := A
  dsimp only [Pt.U, Pt.locs, Pt.cells, Pt.slots] at h1 h2 h3 h4 h5 X hn hPc ⊢
  obtain ⟨methY, cY, hmY, hcY, -, hlY, -, -, -, -⟩ := Cond.code_spec hn h2
  obtain ⟨kY, hkY, -⟩ := className_of_methodNamed hn
  have hinitY : kY.init = .initialized := Cond.initialized_spec (findClass_of_methodNamed hn) hkY h3
  have h : At U g.method c below := by rw [hg]; exact X.here
  have hlocals9 : W9 + (maxL + 11) + (headSpec ws rm).room.locals ≤ R.locals := hlocals
  have happ : (headSpec ws rm).appliesLoose y e.platform (U.calling g mk a) = true :=
    Spec.appliesLoose_calling (g := g) h hdg hn hkY hinitY
      (X.room_calling (g := g) (R' := (headSpec ws rm).room) hsize hmY hcY hframes (by rw [hlY]; omega) h4 h5) h1
  obtain ⟨mid, hmid⟩ := h.above
  have hfr : (U.setTop g).frames = (.java g :: mid) ++ below := by rw [State.frames_setTop' g h.top, hmid]; rfl
  obtain ⟨o, s₂, hsteps, -, hend, hq⟩ := Steps.callFree hM p X.admits X.cas X.clock (acts := []) hfr happ hPc trivial
  have hq' : vx_Q Qc XC mc ms free a (U.calling g mk a) o s₂ := hq
  rw [State.frames_setTop' g h.top] at hend
  obtain ⟨g₀, hg0⟩ := Option.isSome_iff_exists.mp h.top
  obtain ⟨r, hr⟩ := State.topJava?_eq_some.mp hg0
  have hr' : (({ U with heap := s₂.heap, slotsUsed := s₂.slotsUsed } : State).setVm s₂.vm).frames = .java g₀ :: r := hr
  rcases hq' with ⟨hqc, L, hfe, hL⟩ | ⟨q, rfl, E, ce, L, hx, hce, hcv, hcl, hW₂, hsm, hL⟩
  · obtain ⟨⟨v, rfl⟩, hW₂, e2, q2, q3, q4, q5, q6⟩ := id hfe
    have e3 : s₂ = ({ (U.calling g mk a).setFrames s₂.frames with heap := s₂.heap, slotsUsed := s₂.slotsUsed } : State).setVm s₂.vm := by
      have : s₂ = ({ s₂ with vm := (U.calling g mk a).vm } : State).setVm s₂.vm := rfl
      rw [e2] at this
      exact this
    obtain ⟨c₂, i₂, len₂, hc₂, hd₂, hf₂⟩ := hend
    have hW' : U.WarmedH s₂.vm := hW₂
    have hcc : c₂ = c := by
      have h1 : s₂.code? g.method = U.code? g.method := by
        rw [State.code?_eq, State.code?_eq, hW'.alike.method?]
      exact Option.some.inj (hc₂.symm.trans (h1.trans h.code))
    subst hcc
    have hlen : len₂ = len := by rw [hdg] at hd₂; cases hd₂; rfl
    subst hlen
    have hs₂ : s₂ = (({ U with heap := s₂.heap, slotsUsed := s₂.slotsUsed } : State).setVm s₂.vm).setTop { g with pc := g.pc + len₂, stack := v.toList ++ g.stack } := by
      refine e3.trans ?_
      rw [hf₂, State.calling_eq h.top, State.setFrames_setFrames, State.setTop_of_frames _ hr', hr]
      rfl
    have hsame : U.sameButNew ({ U with heap := s₂.heap, slotsUsed := s₂.slotsUsed } : State) L mc ms := by
      refine ⟨?_, q2, q3, q4, q5, q6⟩
      obtain ⟨t, ht, -⟩ := State.frames_cons hr
      show ({ U with heap := s₂.heap, slotsUsed := s₂.slotsUsed } : State) = { U.setFrames U.frames with heap := s₂.heap, slotsUsed := s₂.slotsUsed }
      rw [State.setFrames_self ht]
    subst hg
    refine Or.inl ⟨v, ⟨(({ U with heap := s₂.heap, slotsUsed := s₂.slotsUsed } : State).setVm s₂.vm), Ls ++ L, c0 + mc, s0 + ms⟩,
      ⟨X.admits, X.cas, X.clock, X.frames, X.room, X.hears, X.method, X.code, (X.here.setHeapUsed s₂.heap s₂.slotsUsed).setVm hW'.alike, X.tail, State.WarmedH.trans X.warmed hW', X.limits, X.bytes, X.same.trans (hsame.setVm s.vm)⟩,
      ⟨g, mk, s₂, L, rfl, rfl, hqc, rfl, hL, rfl, rfl⟩, ?_⟩
    show Steps p.tables e below _ ((({ U with heap := s₂.heap, slotsUsed := s₂.slotsUsed } : State).setVm s₂.vm).setTop { g with pc := g.pc + len₂, stack := v.toList ++ g.stack })
    rw [← hs₂]
    exact hsteps
  · obtain ⟨e2, q2, q3, q4, q5, q6⟩ := id hsm
    have e3 : s₂ = ({ (U.calling g mk a).setFrames s₂.frames with heap := s₂.heap, slotsUsed := s₂.slotsUsed } : State).setVm s₂.vm := by
      have : s₂ = ({ s₂ with vm := (U.calling g mk a).vm } : State).setVm s₂.vm := rfl
      rw [e2] at this
      exact this
    have hf₂ : s₂.frames = .throwing q :: .java g :: U.frames.tail := hend
    have hW' : U.WarmedH s₂.vm := hW₂
    have hs₂ : s₂ = ((({ U with heap := s₂.heap, slotsUsed := s₂.slotsUsed } : State).setVm s₂.vm).setTop g).pushFrame (.throwing q) := by
      refine e3.trans ?_
      rw [hf₂, State.calling_eq h.top, State.setFrames_setFrames, State.pushFrame, State.frames_setTop _ hr', State.setTop_of_frames _ hr', State.setFrames_setFrames, hr]
      rfl
    have hsame : U.sameButNew ({ U with heap := s₂.heap, slotsUsed := s₂.slotsUsed } : State) L mc ms := by
      refine ⟨?_, q2, q3, q4, q5, q6⟩
      obtain ⟨t, ht, -⟩ := State.frames_cons hr
      show ({ U with heap := s₂.heap, slotsUsed := s₂.slotsUsed } : State) = { U.setFrames U.frames with heap := s₂.heap, slotsUsed := s₂.slotsUsed }
      rw [State.setFrames_self ht]
    subst hg
    refine Or.inr ⟨q, ⟨(({ U with heap := s₂.heap, slotsUsed := s₂.slotsUsed } : State).setVm s₂.vm), Ls ++ L, c0 + mc, s0 + ms⟩,
      ⟨X.admits, X.cas, X.clock, X.frames, X.room, X.hears, X.method, X.code, (X.here.setHeapUsed s₂.heap s₂.slotsUsed).setVm hW'.alike, X.tail, State.WarmedH.trans X.warmed hW', X.limits, X.bytes, X.same.trans (hsame.setVm s.vm)⟩,
      ⟨g, mk, s₂, L, E, ce, rfl, rfl, hx, hce, hcv, hcl, rfl, hL, rfl, rfl⟩, ?_⟩
    show Steps p.tables e below _ (((({ U with heap := s₂.heap, slotsUsed := s₂.slotsUsed } : State).setVm s₂.vm).setTop g).pushFrame (.throwing q))
    rw [← hs₂]
    exact hsteps
end Payer
section Calls
variable {p : Program} {l : Launch} {e : Env} {R : Room} {s : State} {m : MethodId} {args : Array Value} {below : List Frame} {meth : Method} {c : Code} {T : State} {locs : List Loc} {cells slots : Nat}
theorem vx_callV (X : Stand p l e R s m args below meth c T locs cells slots) (hexec : p.tables.exec = Jvm.exec) {own C : String} {index : Nat} {y : MethodName} {bytes : ByteArray} {maxL : Nat} {ret : Option FieldType}
    (hown : s.vm.findClass own = some m.cls) (hlink : (Cond.methodLink own index y).before args s = true) (hinst : (Cond.instanceMethod y).before args s = true) (hsel : (Cond.selects C y y).before args s = true)
    (hcode : (Cond.code y bytes maxL ret).before args s = true) (hy : y.cls ≠ "java/lang/invoke/MethodHandle" ∧ y.cls ≠ "java/lang/invoke/VarHandle")
    {W9 : Nat} {Pre : Pt → Array Value → Prop} {Post : Pt → Array Value → Option Value → Pt → Prop} {PostX : Pt → Array Value → Addr → Pt → Prop} (hK : vx_Back l R p e below s args y 3 W9 Pre Post PostX)
    {b : Addr} {cellB : Cell} (hcell : T.heap[b]? = some cellB) (hobj : cellB.vm.isStatics = false) (hcls : s.vm.findClass C = some cellB.cls)
    {g : JFrame} (hg : g.method = m) (hsize : g.locals.size = c.maxLocals) {argsL rest : List Value} (hlen : ∀ sig, parseMethodDescriptor y.desc = some sig → argsL.length = sig.parameters.length)
    (hstack : g.stack = argsL.reverse ++ .ref b :: rest) (hW : 2 * g.monitorRoom + (rest.map fun v => v.category).sum ≤ W9) (hdg : decode c.code g.pc = .ok (.invokevirtual index, 3))
    (hpre : ∀ vm₁, s.WarmedH vm₁ → Pre ⟨T.setVm vm₁, locs, cells, slots⟩ (Value.ref b :: argsL).toArray) :
    (∃ (v : Option Value) (vm₁ : Vm) (B : Pt), s.WarmedH vm₁ ∧ Stand p l e R s m args below meth c B.U B.locs B.cells B.slots ∧ Post ⟨T.setVm vm₁, locs, cells, slots⟩ (Value.ref b :: argsL).toArray v B ∧
      ∀ target, Steps p.tables e below (B.U.setTop { g with pc := g.pc + 3, stack := v.toList ++ rest }) target → Steps p.tables e below (T.setTop g) target) ∨
    (∃ (q : Addr) (vm₁ : Vm) (B : Pt), s.WarmedH vm₁ ∧ Stand p l e R s m args below meth c B.U B.locs B.cells B.slots ∧ PostX ⟨T.setVm vm₁, locs, cells, slots⟩ (Value.ref b :: argsL).toArray q B ∧
      Steps p.tables e below (T.setTop g) ((B.U.setTop { g with stack := rest }).pushFrame (.throwing q))) := by
  obtain ⟨mk, methM, hnamed, hmethM, hstM, habM⟩ := Cond.instanceMethod_spec hinst
  obtain ⟨methM', cM, hmethM', -, -, -, -, -, -, hsigM⟩ := Cond.code_spec hnamed hcode
  cases hmethM.symm.trans hmethM'
  obtain ⟨c2, r2, m2, q1, q2, q3, q4, kP, hkP, hkPi⟩ := Cond.selects_spec hsel
  cases hcls.symm.trans q1
  cases (State.methodFound?_of_named hnamed hy).symm.trans q2
  cases hnamed.symm.trans q3
  have hselP : selectMethod e.platform s.vm cellB.cls mk = .method mk := by rw [Launch.admits_selectMethod X.admits]; exact q4
  obtain ⟨vm₁, X₁, hstep₁⟩ := X.invokevirtual hexec hown hlink hnamed hmethM hstM hkP hkPi hy (a := b) (cell := cellB) hcell
    (fun z h => by rw [h] at hobj; cases hobj) hselP hmethM habM hkP hkPi (g := g) hg (argsL := argsL) (rest := rest) (hlen _ hsigM) hstack hdg
  rcases hK m meth c ⟨T.setVm vm₁, locs, cells, slots⟩ { g with stack := rest } (.invokevirtual index) mk (Value.ref b :: argsL).toArray X₁ hg hsize hdg hW (X₁.named hnamed) (hpre vm₁ X₁.warmed) with ⟨v, B, X', hpost, hsteps⟩ | ⟨q, B, X', hpost, hsteps⟩
  · exact Or.inl ⟨v, vm₁, B, X₁.warmed, X', hpost, fun target h => hstep₁ _ fun acts => by rw [doInvoke_state]; exact hsteps.trans h⟩
  · exact Or.inr ⟨q, vm₁, B, X₁.warmed, X', hpost, hstep₁ _ fun acts => by rw [doInvoke_state]; exact hsteps⟩
theorem vx_callS (X : Stand p l e R s m args below meth c T locs cells slots) (hexec : p.tables.exec = Jvm.exec) {own : String} {index : Nat} {y : MethodName} {bytes : ByteArray} {maxL : Nat} {ret : Option FieldType}
    (hown : s.vm.findClass own = some m.cls) (hlink : (Cond.methodLink own index y).before args s = true) (hstat : (Cond.static y).before args s = true) (hinit : (Cond.initialized y.cls).before args s = true)
    (hcode : (Cond.code y bytes maxL ret).before args s = true) (hy : y.cls ≠ "java/lang/invoke/MethodHandle" ∧ y.cls ≠ "java/lang/invoke/VarHandle")
    {W9 : Nat} {Pre : Pt → Array Value → Prop} {Post : Pt → Array Value → Option Value → Pt → Prop} {PostX : Pt → Array Value → Addr → Pt → Prop} (hK : vx_Back l R p e below s args y 3 W9 Pre Post PostX)
    {g : JFrame} (hg : g.method = m) (hsize : g.locals.size = c.maxLocals) {argsL rest : List Value} (hlen : ∀ sig, parseMethodDescriptor y.desc = some sig → argsL.length = sig.parameters.length)
    (hstack : g.stack = argsL.reverse ++ rest) (hW : 2 * g.monitorRoom + (rest.map fun v => v.category).sum ≤ W9) (hdg : decode c.code g.pc = .ok (.invokestatic index, 3))
    (hpre : ∀ vm₁, s.WarmedH vm₁ → Pre ⟨T.setVm vm₁, locs, cells, slots⟩ argsL.toArray) :
    (∃ (v : Option Value) (vm₁ : Vm) (B : Pt), s.WarmedH vm₁ ∧ Stand p l e R s m args below meth c B.U B.locs B.cells B.slots ∧ Post ⟨T.setVm vm₁, locs, cells, slots⟩ argsL.toArray v B ∧
      ∀ target, Steps p.tables e below (B.U.setTop { g with pc := g.pc + 3, stack := v.toList ++ rest }) target → Steps p.tables e below (T.setTop g) target) ∨
    (∃ (q : Addr) (vm₁ : Vm) (B : Pt), s.WarmedH vm₁ ∧ Stand p l e R s m args below meth c B.U B.locs B.cells B.slots ∧ PostX ⟨T.setVm vm₁, locs, cells, slots⟩ argsL.toArray q B ∧
      Steps p.tables e below (T.setTop g) ((B.U.setTop { g with stack := rest }).pushFrame (.throwing q))) := by
  obtain ⟨mk, hnamed⟩ := Cond.code_named hcode
  obtain ⟨methM, cM, hmethM, -, -, -, -, -, -, hsigM⟩ := Cond.code_spec hnamed hcode
  have hstatic : methM.isStatic = true := Cond.static_spec hnamed hmethM hstat
  obtain ⟨kP, hkP, -⟩ := className_of_methodNamed hnamed
  have hinitP : kP.init = .initialized := Cond.initialized_spec (findClass_of_methodNamed hnamed) hkP hinit
  obtain ⟨vm₁, X₁, hstep₁⟩ := X.invokestatic hexec hown hlink hnamed hmethM hstatic hkP hinitP hy (g := g) hg (argsL := argsL) (rest := rest) (hlen _ hsigM) hstack hdg
  rcases hK m meth c ⟨T.setVm vm₁, locs, cells, slots⟩ { g with stack := rest } (.invokestatic index) mk argsL.toArray X₁ hg hsize hdg hW (X₁.named hnamed) (hpre vm₁ X₁.warmed) with ⟨v, B, X', hpost, hsteps⟩ | ⟨q, B, X', hpost, hsteps⟩
  · exact Or.inl ⟨v, vm₁, B, X₁.warmed, X', hpost, fun target h => hstep₁ _ fun acts => by rw [doInvoke_state]; exact hsteps.trans h⟩
  · exact Or.inr ⟨q, vm₁, B, X₁.warmed, X', hpost, hstep₁ _ fun acts => by rw [doInvoke_state]; exact hsteps⟩
end Calls
theorem vx_cls {s : State} {T : State} {vm₁ : Vm} {E : String} {k : ClassId} (hW : s.WarmedH vm₁) (h : (T.setVm vm₁).vm.findClass E = some k) : s.vm.findClass E = some k := by
  have h1 : vm₁.findClass E = some k := h
  rw [hW.alike.findClass] at h1
  exact h1
/-- the method's frame g, with q thrown over it -/
def vx_W (p : Program) (l : Launch) (e : Env) (R : Room) (s : State) (m : MethodId) (args : Array Value) (below : List Frame) (meth : Method) (c : Code) (H : Heap) (locs : List Loc) (cells slots : Nat) (Q : State → Prop) (g : JFrame) (q : Addr) : Prop :=
  ∀ T : State, T.heap = H → Stand p l e R s m args below meth c T locs cells slots → ∃ t, Steps p.tables e below ((T.setTop g).pushFrame (.throwing q)) t ∧ Q t
def vx_Run (p : Program) (l : Launch) (e : Env) (R : Room) (s : State) (m : MethodId) (args : Array Value) (below : List Frame) (meth : Method) (c : Code) (H : Heap) (locs : List Loc) (cells slots mc ms : Nat) (g : JFrame) (rest : List Value) (Qa : State → Outcome → State → Prop) (XC : String → State → State → Prop) (free : Addr → Prop) : Prop :=
  ∀ T : State, T.heap = H → Stand p l e R s m args below meth c T locs cells slots →
    (∃ (v : Option Value) (st₀ t T' : State) (L : List Loc), st₀.heap = H ∧ Stand p l e R s m args below meth c T' (locs ++ L) (cells + mc) (slots + ms) ∧ (∀ q ∈ L, free q.base) ∧ T'.heap = t.heap ∧ T'.vm = t.vm ∧ Qa st₀ (.returned v) t ∧
      Goes p e below T g T' { g with pc := g.pc + 3, stack := v.toList ++ rest }) ∨
    (∃ (q : Addr) (st₀ t T' : State) (L : List Loc) (E : String) (ce : Cell), st₀.heap = H ∧ Stand p l e R s m args below meth c T' (locs ++ L) (cells + mc) (slots + ms) ∧ (∀ z ∈ L, free z.base) ∧ T'.heap = t.heap ∧ T'.vm = t.vm ∧ XC E st₀ t ∧ t.heap[q]? = some ce ∧ ce.vm = .none ∧ s.vm.findClass E = some ce.cls ∧
      Steps p.tables e below (T.setTop g) ((T'.setTop { g with stack := rest }).pushFrame (.throwing q)))
def vx_X {S : Type} (px : S → Prop) (B : String → S → State → Prop) (A : Nat → Prop) : String → State → State → Prop := fun E st t => ∃ u : S, px u ∧ B E u t ∧ va_F A st t
section Runs
variable {p : Program} {l : Launch} {e : Env} {R : Room} {s : State} {m : MethodId} {args : Array Value} {below : List Frame} {meth : Method} {c : Code} {H : Heap} {locs : List Loc} {cells slots : Nat}
variable {y : MethodName} {bytes cc : ByteArray} {maxL nL mc ms n index : Nat} {ret : Option FieldType} {ws : List Cond} {rm : Room} {Pc : Array Value → State → Prop} {Qc : Array Value → State → Outcome → State → Prop} {XC : String → State → State → Prop} {free : Addr → Prop} {Ts : List Cond} {own C : String} {b : Addr} {As rest : List Value} {g : JFrame}
theorem vx_callBack (cb : CallB R s args own index y bytes maxL ret ws rm mc ms n) (hM : vx_Met l y ws rm Pc Qc XC mc ms free) (hbl : FrameBlind Pc) : vx_Back l R p e below s args y 3 8 (PreOf R mc ms Pc) (PostOf Qc mc ms free) (vx_Post XC mc ms free) := by
  obtain ⟨hrc, hrs, hfr, hlo, hws, hcw, -, hini, -⟩ := cb
  exact vx_back (bytes := bytes) (maxL := maxL) (ret := ret) hM hbl hrc hrs hfr hlo hws hcw (fun a' U hW => word_at hW (Or.inl (by first | rfl | simp [Cond.onTables, Cond.keeps, Cond.steady])) hini)
theorem vx_runV (S : CallFix p m c cc nL s args Ts own) (hM : vx_Met l y ws rm Pc Qc XC mc ms free) (cw : CallW R s args own C index y bytes maxL ret ws rm mc ms n) (hp : PreV s H C b Pc As)
    (hg : g.method = m) (hn : As.length = n) (hsize : g.locals.size = nL) (hstack : g.stack = As.reverse ++ .ref b :: rest) (hW : 2 * g.monitorRoom + (rest.map fun v => v.category).sum ≤ 8) (hdg : decode cc g.pc = .ok (.invokevirtual index, 3)) (hf : cells + mc ≤ R.cells ∧ slots + ms ≤ R.slots) :
    vx_Run p l e R s m args below meth c H locs cells slots mc ms g rest (Qc (Value.ref b :: As).toArray) XC free := by
  have hK : vx_Back l R p e below s args y 3 8 (PreOf R mc ms Pc) (PostOf Qc mc ms free) (vx_Post XC mc ms free) := vx_callBack cw.1 hM hp.1
  obtain ⟨⟨-, -, -, -, -, -, hcode, -, hy, hlen, hl⟩, hin, hse⟩ := cw
  obtain ⟨hx, hb, hml, ho, -⟩ := S
  obtain ⟨-, ⟨cellB, hcB, hoB, hclB⟩, hPc⟩ := hp
  intro T hT X
  rcases vx_callV X hx (C := C) (bytes := bytes) (maxL := maxL) (ret := ret) ho hl hin hse hcode hy hK (by rw [hT]; exact hcB) hoB hclB hg (hsize.trans hml.symm) (argsL := As) (rest := rest) (fun sig h => hn.trans (hlen sig h)) hstack hW (by rw [hb]; exact hdg)
    (fun vm₁ hW₁ => ⟨hf.1, hf.2, hPc (T.setVm vm₁) hT hW₁⟩) with ⟨v, vm₁, ⟨U', l2, c2, s2⟩, hW₁, X', ⟨g', mk, t, L, e1, e2, hq, h1, hL, h2, h3⟩, st⟩ | ⟨q, vm₁, ⟨U', l2, c2, s2⟩, hW₁, X', ⟨g', mk, t, L, E, ce, e1, e2, hq, hce, hcv, hcl, h1, hL, h2, h3⟩, st⟩
  · dsimp only [Pt.U, Pt.locs, Pt.cells, Pt.slots] at X' e1 e2 h1 h2 h3 st
    subst h1; subst h2; subst h3
    exact Or.inl ⟨v, (T.setVm vm₁).calling g' mk (Value.ref b :: As).toArray, t, U', L, hT, X', hL, e1, e2, hq, st⟩
  · dsimp only [Pt.U, Pt.locs, Pt.cells, Pt.slots] at X' e1 e2 h1 h2 h3 st hcl
    subst h1; subst h2; subst h3
    exact Or.inr ⟨q, (T.setVm vm₁).calling g' mk (Value.ref b :: As).toArray, t, U', L, E, ce, hT, X', hL, e1, e2, hq, hce, hcv, vx_cls hW₁ hcl, st⟩
theorem vx_runS (S : CallFix p m c cc nL s args Ts own) (hM : vx_Met l y ws rm Pc Qc XC mc ms free) (cw : CallB R s args own index y bytes maxL ret ws rm mc ms n ∧ (Cond.static y).before args s = true) (hp : PreS s H Pc As)
    (hg : g.method = m) (hn : As.length = n) (hsize : g.locals.size = nL) (hstack : g.stack = As.reverse ++ rest) (hW : 2 * g.monitorRoom + (rest.map fun v => v.category).sum ≤ 8) (hdg : decode cc g.pc = .ok (.invokestatic index, 3)) (hf : cells + mc ≤ R.cells ∧ slots + ms ≤ R.slots) :
    vx_Run p l e R s m args below meth c H locs cells slots mc ms g rest (Qc As.toArray) XC free := by
  have hK : vx_Back l R p e below s args y 3 8 (PreOf R mc ms Pc) (PostOf Qc mc ms free) (vx_Post XC mc ms free) := vx_callBack cw.1 hM hp.1
  obtain ⟨⟨-, -, -, -, -, -, hcode, hini, hy, hlen, hl⟩, hstt⟩ := cw
  obtain ⟨hx, hb, hml, ho, -⟩ := S
  intro T hT X
  rcases vx_callS X hx (bytes := bytes) (maxL := maxL) (ret := ret) ho hl hstt hini hcode hy hK hg (hsize.trans hml.symm) (argsL := As) (rest := rest) (fun sig h => hn.trans (hlen sig h)) hstack hW (by rw [hb]; exact hdg)
    (fun vm₁ hW₁ => ⟨hf.1, hf.2, hp.2 (T.setVm vm₁) hT hW₁⟩) with ⟨v, vm₁, ⟨U', l2, c2, s2⟩, hW₁, X', ⟨g', mk, t, L, e1, e2, hq, h1, hL, h2, h3⟩, st⟩ | ⟨q, vm₁, ⟨U', l2, c2, s2⟩, hW₁, X', ⟨g', mk, t, L, E, ce, e1, e2, hq, hce, hcv, hcl, h1, hL, h2, h3⟩, st⟩
  · dsimp only [Pt.U, Pt.locs, Pt.cells, Pt.slots] at X' e1 e2 h1 h2 h3 st
    subst h1; subst h2; subst h3
    exact Or.inl ⟨v, (T.setVm vm₁).calling g' mk As.toArray, t, U', L, hT, X', hL, e1, e2, hq, st⟩
  · dsimp only [Pt.U, Pt.locs, Pt.cells, Pt.slots] at X' e1 e2 h1 h2 h3 st hcl
    subst h1; subst h2; subst h3
    exact Or.inr ⟨q, (T.setVm vm₁).calling g' mk As.toArray, t, U', L, E, ce, hT, X', hL, e1, e2, hq, hce, hcv, vx_cls hW₁ hcl, st⟩
end Runs
section Rows
variable {p : Program} {l : Launch} {e : Env} {R : Room} {s : State} {m : MethodId} {args : Array Value} {below : List Frame} {meth : Method} {c : Code} {H : Heap} {locs : List Loc} {cells slots : Nat} {Q : State → Prop}
variable {mc ms : Nat} {free : Addr → Prop} {A0 A1 : Nat → Prop} {H0 : Heap} {a : Array Value} {pc : Nat} {ls : Array Slot} {st0 rest : List Value}
theorem vx_keep {st₀ t T' : State} {L : List Loc} (h0 : st₀.heap = H) (e1 : T'.heap = t.heap) (hS : va_S A0 H0 H locs) (hA : ∀ q, q < H.size → A1 q → A0 q) (hf : ∀ q, free q → A0 q) (hL : ∀ q ∈ L, free q.base) (hF : va_F A1 st₀ t) :
    H.size ≤ T'.heap.size ∧ (∀ q : Nat, q < H.size → ¬ A1 q → T'.heap[q]? = H[q]?) ∧ va_S A0 H0 T'.heap (locs ++ L) := by
  obtain ⟨hz, hk⟩ := hF
  rw [h0] at hz hk
  exact ⟨by rw [e1]; exact hz, fun q h1 h2 => by rw [e1]; exact hk q h1 h2,
    ⟨Nat.le_trans hS.1 (by rw [e1]; exact hz), fun q h1 h2 => by rw [e1, hk q (Nat.lt_of_lt_of_le h1 hS.1) (fun z => h2 (hA q (Nat.lt_of_lt_of_le h1 hS.1) z))]; exact hS.2.1 q h1 h2, fun q hq => by
      rcases List.mem_append.mp hq with h | h
      · exact hS.2.2 q h
      · exact hf _ (hL q h)⟩⟩
theorem vx_calli {S SX : Type} {post : Int32 → S → Prop} {px : SX → Prop} {B : S → State → Prop} {BX : String → SX → State → Prop} {AX : Nat → Prop} (hr : vx_Run p l e R s m args below meth c H locs cells slots mc ms (F0 m pc ls st0) rest (va_Qi post B A1 a) (vx_X px BX AX) free) (hS : va_S A0 H0 H locs) (hA : ∀ q, q < H.size → A1 q → A0 q) (hf : ∀ q, free q → A0 q) (hAX : ∀ q, q < H.size → AX q → A0 q)
    (kx : ∀ (E : String) (ce : Cell) (q9 : Addr) (u : SX) (t : State) (H1 : Heap) (locs1 : List Loc), t.heap = H1 → s.vm.Alike t.vm → px u → BX E u t → H.size ≤ H1.size → (∀ q : Nat, q < H.size → ¬ AX q → H1[q]? = H[q]?) → va_S A0 H0 H1 locs1 → H1[q9]? = some ce → ce.vm = .none → s.vm.findClass E = some ce.cls → vx_W p l e R s m args below meth c H1 locs1 (cells + mc) (slots + ms) Q (F0 m pc ls rest) q9)
    (kk : ∀ (r : Int32) (u : S) (t : State) (H1 : Heap) (locs1 : List Loc), t.heap = H1 → s.vm.Alike t.vm → post r u → B u t → H.size ≤ H1.size → (∀ q : Nat, q < H.size → ¬ A1 q → H1[q]? = H[q]?) → va_S A0 H0 H1 locs1 → W p l e R s m args below meth c H1 locs1 (cells + mc) (slots + ms) Q (F0 m (pc + 3) ls (.int r :: rest))) : W p l e R s m args below meth c H locs cells slots Q (F0 m pc ls st0) := by
  intro T hT X
  rcases hr T hT X with ⟨v, st₀, t, T', L, h0, X', hL, e1, e2, ⟨⟨r, u, hv, hp, hb⟩, hF⟩, st⟩ | ⟨q, st₀, t, T', L, E, ce, h0, X', hL, e1, e2, ⟨u, hp, hb, hF⟩, hce, hcv, hcl, st⟩
  · cases hv
    obtain ⟨k1, k2, k3⟩ := vx_keep h0 e1 hS hA hf hL hF
    obtain ⟨t2, a1, b1⟩ := kk r u t T'.heap (locs ++ L) e1.symm (by rw [← e2]; exact X'.warmed.alike) hp hb k1 k2 k3 T' rfl X'
    exact ⟨t2, st t2 a1, b1⟩
  · obtain ⟨k1, k2, k3⟩ := vx_keep h0 e1 hS hAX hf hL hF
    obtain ⟨t2, a1, b1⟩ := kx E ce q u t T'.heap (locs ++ L) e1.symm (by rw [← e2]; exact X'.warmed.alike) hp hb k1 k2 k3 (by rw [e1]; exact hce) hcv hcl T' rfl X'
    exact ⟨t2, st.trans a1, b1⟩
theorem vx_calll {S SX : Type} {post : Int64 → S → Prop} {px : SX → Prop} {B : S → State → Prop} {BX : String → SX → State → Prop} {AX : Nat → Prop} (hr : vx_Run p l e R s m args below meth c H locs cells slots mc ms (F0 m pc ls st0) rest (va_Ql post B A1 a) (vx_X px BX AX) free) (hS : va_S A0 H0 H locs) (hA : ∀ q, q < H.size → A1 q → A0 q) (hf : ∀ q, free q → A0 q) (hAX : ∀ q, q < H.size → AX q → A0 q)
    (kx : ∀ (E : String) (ce : Cell) (q9 : Addr) (u : SX) (t : State) (H1 : Heap) (locs1 : List Loc), t.heap = H1 → s.vm.Alike t.vm → px u → BX E u t → H.size ≤ H1.size → (∀ q : Nat, q < H.size → ¬ AX q → H1[q]? = H[q]?) → va_S A0 H0 H1 locs1 → H1[q9]? = some ce → ce.vm = .none → s.vm.findClass E = some ce.cls → vx_W p l e R s m args below meth c H1 locs1 (cells + mc) (slots + ms) Q (F0 m pc ls rest) q9)
    (kk : ∀ (r : Int64) (u : S) (t : State) (H1 : Heap) (locs1 : List Loc), t.heap = H1 → s.vm.Alike t.vm → post r u → B u t → H.size ≤ H1.size → (∀ q : Nat, q < H.size → ¬ A1 q → H1[q]? = H[q]?) → va_S A0 H0 H1 locs1 → W p l e R s m args below meth c H1 locs1 (cells + mc) (slots + ms) Q (F0 m (pc + 3) ls (.long r :: rest))) : W p l e R s m args below meth c H locs cells slots Q (F0 m pc ls st0) := by
  intro T hT X
  rcases hr T hT X with ⟨v, st₀, t, T', L, h0, X', hL, e1, e2, ⟨⟨r, u, hv, hp, hb⟩, hF⟩, st⟩ | ⟨q, st₀, t, T', L, E, ce, h0, X', hL, e1, e2, ⟨u, hp, hb, hF⟩, hce, hcv, hcl, st⟩
  · cases hv
    obtain ⟨k1, k2, k3⟩ := vx_keep h0 e1 hS hA hf hL hF
    obtain ⟨t2, a1, b1⟩ := kk r u t T'.heap (locs ++ L) e1.symm (by rw [← e2]; exact X'.warmed.alike) hp hb k1 k2 k3 T' rfl X'
    exact ⟨t2, st t2 a1, b1⟩
  · obtain ⟨k1, k2, k3⟩ := vx_keep h0 e1 hS hAX hf hL hF
    obtain ⟨t2, a1, b1⟩ := kx E ce q u t T'.heap (locs ++ L) e1.symm (by rw [← e2]; exact X'.warmed.alike) hp hb k1 k2 k3 (by rw [e1]; exact hce) hcv hcl T' rfl X'
    exact ⟨t2, st.trans a1, b1⟩
theorem vx_callf {S SX : Type} {post : UInt32 → S → Prop} {px : SX → Prop} {B : S → State → Prop} {BX : String → SX → State → Prop} {AX : Nat → Prop} (hr : vx_Run p l e R s m args below meth c H locs cells slots mc ms (F0 m pc ls st0) rest (va_Qf post B A1 a) (vx_X px BX AX) free) (hS : va_S A0 H0 H locs) (hA : ∀ q, q < H.size → A1 q → A0 q) (hf : ∀ q, free q → A0 q) (hAX : ∀ q, q < H.size → AX q → A0 q)
    (kx : ∀ (E : String) (ce : Cell) (q9 : Addr) (u : SX) (t : State) (H1 : Heap) (locs1 : List Loc), t.heap = H1 → s.vm.Alike t.vm → px u → BX E u t → H.size ≤ H1.size → (∀ q : Nat, q < H.size → ¬ AX q → H1[q]? = H[q]?) → va_S A0 H0 H1 locs1 → H1[q9]? = some ce → ce.vm = .none → s.vm.findClass E = some ce.cls → vx_W p l e R s m args below meth c H1 locs1 (cells + mc) (slots + ms) Q (F0 m pc ls rest) q9)
    (kk : ∀ (r : UInt32) (u : S) (t : State) (H1 : Heap) (locs1 : List Loc), t.heap = H1 → s.vm.Alike t.vm → post r u → B u t → H.size ≤ H1.size → (∀ q : Nat, q < H.size → ¬ A1 q → H1[q]? = H[q]?) → va_S A0 H0 H1 locs1 → W p l e R s m args below meth c H1 locs1 (cells + mc) (slots + ms) Q (F0 m (pc + 3) ls (.float r :: rest))) : W p l e R s m args below meth c H locs cells slots Q (F0 m pc ls st0) := by
  intro T hT X
  rcases hr T hT X with ⟨v, st₀, t, T', L, h0, X', hL, e1, e2, ⟨⟨r, u, hv, hp, hb⟩, hF⟩, st⟩ | ⟨q, st₀, t, T', L, E, ce, h0, X', hL, e1, e2, ⟨u, hp, hb, hF⟩, hce, hcv, hcl, st⟩
  · cases hv
    obtain ⟨k1, k2, k3⟩ := vx_keep h0 e1 hS hA hf hL hF
    obtain ⟨t2, a1, b1⟩ := kk r u t T'.heap (locs ++ L) e1.symm (by rw [← e2]; exact X'.warmed.alike) hp hb k1 k2 k3 T' rfl X'
    exact ⟨t2, st t2 a1, b1⟩
  · obtain ⟨k1, k2, k3⟩ := vx_keep h0 e1 hS hAX hf hL hF
    obtain ⟨t2, a1, b1⟩ := kx E ce q u t T'.heap (locs ++ L) e1.symm (by rw [← e2]; exact X'.warmed.alike) hp hb k1 k2 k3 (by rw [e1]; exact hce) hcv hcl T' rfl X'
    exact ⟨t2, st.trans a1, b1⟩
theorem vx_calld {S SX : Type} {post : UInt64 → S → Prop} {px : SX → Prop} {B : S → State → Prop} {BX : String → SX → State → Prop} {AX : Nat → Prop} (hr : vx_Run p l e R s m args below meth c H locs cells slots mc ms (F0 m pc ls st0) rest (va_Qd post B A1 a) (vx_X px BX AX) free) (hS : va_S A0 H0 H locs) (hA : ∀ q, q < H.size → A1 q → A0 q) (hf : ∀ q, free q → A0 q) (hAX : ∀ q, q < H.size → AX q → A0 q)
    (kx : ∀ (E : String) (ce : Cell) (q9 : Addr) (u : SX) (t : State) (H1 : Heap) (locs1 : List Loc), t.heap = H1 → s.vm.Alike t.vm → px u → BX E u t → H.size ≤ H1.size → (∀ q : Nat, q < H.size → ¬ AX q → H1[q]? = H[q]?) → va_S A0 H0 H1 locs1 → H1[q9]? = some ce → ce.vm = .none → s.vm.findClass E = some ce.cls → vx_W p l e R s m args below meth c H1 locs1 (cells + mc) (slots + ms) Q (F0 m pc ls rest) q9)
    (kk : ∀ (r : UInt64) (u : S) (t : State) (H1 : Heap) (locs1 : List Loc), t.heap = H1 → s.vm.Alike t.vm → post r u → B u t → H.size ≤ H1.size → (∀ q : Nat, q < H.size → ¬ A1 q → H1[q]? = H[q]?) → va_S A0 H0 H1 locs1 → W p l e R s m args below meth c H1 locs1 (cells + mc) (slots + ms) Q (F0 m (pc + 3) ls (.double r :: rest))) : W p l e R s m args below meth c H locs cells slots Q (F0 m pc ls st0) := by
  intro T hT X
  rcases hr T hT X with ⟨v, st₀, t, T', L, h0, X', hL, e1, e2, ⟨⟨r, u, hv, hp, hb⟩, hF⟩, st⟩ | ⟨q, st₀, t, T', L, E, ce, h0, X', hL, e1, e2, ⟨u, hp, hb, hF⟩, hce, hcv, hcl, st⟩
  · cases hv
    obtain ⟨k1, k2, k3⟩ := vx_keep h0 e1 hS hA hf hL hF
    obtain ⟨t2, a1, b1⟩ := kk r u t T'.heap (locs ++ L) e1.symm (by rw [← e2]; exact X'.warmed.alike) hp hb k1 k2 k3 T' rfl X'
    exact ⟨t2, st t2 a1, b1⟩
  · obtain ⟨k1, k2, k3⟩ := vx_keep h0 e1 hS hAX hf hL hF
    obtain ⟨t2, a1, b1⟩ := kx E ce q u t T'.heap (locs ++ L) e1.symm (by rw [← e2]; exact X'.warmed.alike) hp hb k1 k2 k3 (by rw [e1]; exact hce) hcv hcl T' rfl X'
    exact ⟨t2, st.trans a1, b1⟩
theorem vx_callv {S SX : Type} {post : S → Prop} {px : SX → Prop} {B : S → State → Prop} {BX : String → SX → State → Prop} {AX : Nat → Prop} (hr : vx_Run p l e R s m args below meth c H locs cells slots mc ms (F0 m pc ls st0) rest (va_Qv post B A1 a) (vx_X px BX AX) free) (hS : va_S A0 H0 H locs) (hA : ∀ q, q < H.size → A1 q → A0 q) (hf : ∀ q, free q → A0 q) (hAX : ∀ q, q < H.size → AX q → A0 q)
    (kx : ∀ (E : String) (ce : Cell) (q9 : Addr) (u : SX) (t : State) (H1 : Heap) (locs1 : List Loc), t.heap = H1 → s.vm.Alike t.vm → px u → BX E u t → H.size ≤ H1.size → (∀ q : Nat, q < H.size → ¬ AX q → H1[q]? = H[q]?) → va_S A0 H0 H1 locs1 → H1[q9]? = some ce → ce.vm = .none → s.vm.findClass E = some ce.cls → vx_W p l e R s m args below meth c H1 locs1 (cells + mc) (slots + ms) Q (F0 m pc ls rest) q9)
    (kk : ∀ (u : S) (t : State) (H1 : Heap) (locs1 : List Loc), t.heap = H1 → s.vm.Alike t.vm → post u → B u t → H.size ≤ H1.size → (∀ q : Nat, q < H.size → ¬ A1 q → H1[q]? = H[q]?) → va_S A0 H0 H1 locs1 → W p l e R s m args below meth c H1 locs1 (cells + mc) (slots + ms) Q (F0 m (pc + 3) ls (rest))) : W p l e R s m args below meth c H locs cells slots Q (F0 m pc ls st0) := by
  intro T hT X
  rcases hr T hT X with ⟨v, st₀, t, T', L, h0, X', hL, e1, e2, ⟨⟨u, hv, hp, hb⟩, hF⟩, st⟩ | ⟨q, st₀, t, T', L, E, ce, h0, X', hL, e1, e2, ⟨u, hp, hb, hF⟩, hce, hcv, hcl, st⟩
  · cases hv
    obtain ⟨k1, k2, k3⟩ := vx_keep h0 e1 hS hA hf hL hF
    obtain ⟨t2, a1, b1⟩ := kk u t T'.heap (locs ++ L) e1.symm (by rw [← e2]; exact X'.warmed.alike) hp hb k1 k2 k3 T' rfl X'
    exact ⟨t2, st t2 a1, b1⟩
  · obtain ⟨k1, k2, k3⟩ := vx_keep h0 e1 hS hAX hf hL hF
    obtain ⟨t2, a1, b1⟩ := kx E ce q u t T'.heap (locs ++ L) e1.symm (by rw [← e2]; exact X'.warmed.alike) hp hb k1 k2 k3 (by rw [e1]; exact hce) hcv hcl T' rfl X'
    exact ⟨t2, st.trans a1, b1⟩
/-- caught by the row x of this method's table; the rows ahead don't take it -/
theorem vx_catch {own name : String} {E : String} {ce : Cell} {q : Addr} (hown : s.vm.findClass own = some m.cls) (pre : List ExceptionTableEntry) (x : ExceptionTableEntry) (suf : List ExceptionTableEntry) (hsplit : c.exceptionTable.toList = pre ++ x :: suf)
    (hpass : ∀ z ∈ pre, covers z pc = false ∨ (z.catchType ≠ 0 ∧ ∃ nm : String, (Cond.classLink own z.catchType nm).before args s = true ∧ va_Nc E nm s)) (hx : covers x pc = true) (h0 : x.catchType ≠ 0)
    (hlink : (Cond.classLink own x.catchType name).before args s = true) (hcast : (Cond.castable E name).before args s = true) (hcell : H[q]? = some ce) (hv : ce.vm = .none) (hcl : s.vm.findClass E = some ce.cls)
    (kk : W p l e R s m args below meth c H locs cells slots Q (F0 m x.handlerPc ls [.ref q])) : vx_W p l e R s m args below meth c H locs cells slots Q (F0 m pc ls rest) q := by
  intro T hT X
  have hpl : e.platform.magicAccessors = ({} : Platform).magicAccessors := by rw [X.admits.platform]
  obtain ⟨c3, c4, hc3, hc4, hasg⟩ := Cond.castable_spec hcast
  cases Option.some.inj (hc3.symm.trans hcl)
  obtain ⟨c5, hc5, hcl5⟩ := Cond.classLink_spec hown hlink e.platform hpl
  cases Option.some.inj (hc4.symm.trans hc5)
  obtain ⟨vm', X', st⟩ := X.thenCaughtThrough q (g := F0 m pc ls rest) rfl (Steps.refl _) (by rw [hT]; exact hcell) (by rw [hv]; rfl) (by obtain ⟨k9, h9, -⟩ := Vm.findClass_spec hcl; exact ⟨k9, h9⟩) pre x suf hsplit
    (fun z hz => by
      rcases hpass z hz with h | ⟨hz0, nm, hl1, hn1⟩
      · exact Or.inl h
      · obtain ⟨c6, hc6, hcl6⟩ := Cond.classLink_spec hown hl1 e.platform hpl
        obtain ⟨a8, b8, h1, h2, h3⟩ := hn1
        cases Option.some.inj (h1.symm.trans hcl)
        cases Option.some.inj (h2.symm.trans hc6)
        exact Or.inr ⟨hz0, _, hcl6, h3⟩) hx (Or.inr ⟨h0, c4, hcl5, hasg⟩)
  obtain ⟨t, a1, b1⟩ := kk (T.setVm vm') hT X'
  exact ⟨t, st.trans a1, b1⟩
end Rows
section Ends
variable {p : Program} {l : Launch} {e : Env} {R : Room} {s : State} {m : MethodId} {args : Array Value} {below : List Frame} {meth : Method} {c : Code} {H : Heap} {locs : List Loc} {cells slots : Nat} {Q : State → Prop}
variable {mc ms : Nat} {free : Addr → Prop} {A0 A1 : Nat → Prop} {H0 : Heap} {a : Array Value} {ls : Array Slot} {st0 rest : List Value}
variable {Qc : Array Value → State → Outcome → State → Prop} {XC : String → State → State → Prop}
/-- what a body that may throw owes at its end -/
def vx_MQ (below : List Frame) (Qc : Array Value → State → Outcome → State → Prop) (XC : String → State → State → Prop) (a : Array Value) (s : State) (mc ms : Nat) (free : Addr → Prop) : State → Prop := fun t =>
  ∃ o, t.status = .running ∧ Ended t below o ∧ vx_Q Qc XC mc ms free a s o t
theorem vx_ret {g : JFrame} {mc ms : Nat} (k : W p l e R s m args below meth c H locs cells slots (MQ below Qc args s mc ms free) g) : W p l e R s m args below meth c H locs cells slots (vx_MQ below Qc XC args s mc ms free) g := by
  intro T hT X
  obtain ⟨t, a1, o, b1, b2, b3, b4⟩ := k T hT X
  exact ⟨t, a1, o, b1, b2, Or.inl ⟨b3, b4⟩⟩
/-- not caught here: it goes on to the caller -/
theorem vx_widen {g : JFrame} {q : Addr} {k n : Nat} (h1 : cells ≤ k) (h2 : slots ≤ n) (kk : vx_W p l e R s m args below meth c H locs k n Q g q) : vx_W p l e R s m args below meth c H locs cells slots Q g q := fun T hT X => kk T hT (stand_widen X h1 h2)
theorem vx_out {pc : Nat} {E : String} {ce : Cell} {q : Addr} {mc ms : Nat} (hout : ∀ x ∈ c.exceptionTable.toList, covers x pc = false) (hlocks : meth.locks = false) (hcell : H[q]? = some ce) (hv : ce.vm = .none) (hcl : s.vm.findClass E = some ce.cls)
    (hx : ∀ t : State, t.heap = H → s.vm.Alike t.vm → XC E s t) (hf : ∀ z ∈ locs, free z.base) (hc : cells ≤ mc) (hs : slots ≤ ms) :
    vx_W p l e R s m args below meth c H locs cells slots (vx_MQ below Qc XC args s mc ms free) (F0 m pc ls rest) q := by
  intro T hT X
  obtain ⟨st1, hrun, hend, hW, hsm⟩ := X.leaveThrown q (g := F0 m pc ls rest) rfl rfl rfl hout hlocks
  have hcell9 : (T.setFrames (.throwing q :: below)).heap[q]? = some ce := by
    show T.heap[q]? = some ce
    rw [hT]; exact hcell
  exact ⟨_, st1, .threw q, hrun, hend, Or.inr ⟨q, rfl, E, ce, locs, hx _ hT hW.alike, hcell9, hv, hcl, hW, hsm.mono hc hs, hf⟩⟩
theorem vx_frame {U : State} {k n : Nat} (h : s.sameButNew ({ U with vm := s.vm } : State) locs k n) : s.heap.size ≤ U.heap.size ∧ ∀ q : Nat, q < s.heap.size → (∀ z ∈ locs, z.base ≠ q) → U.heap[q]? = s.heap[q]? := by
  obtain ⟨-, h2, -, -, -, h6⟩ := h
  refine ⟨h2, fun q hq hz => ?_⟩
  obtain ⟨c9, e1, e2, e3, e4⟩ := h6 q _ (Array.getElem?_eq_getElem hq)
  have hs : c9.slots = (s.heap[q]).slots := Array.ext_getElem? fun i => e4 i fun hm => hz _ hm rfl
  have h9 : c9 = s.heap[q] := by
    rw [hs] at e2
    exact e2
  have e5 : U.heap[q]? = some c9 := e1
  rw [e5, h9, Array.getElem?_eq_getElem hq]
/-- the words of a throw but the four that speak of the heap -/
def vx_no (w : Cond) : Bool := decide (w ≠ .isRef (.static Bundle.tN "UNASSIGNED_STACK" Bundle.steD)) && decide (w ≠ .isRef (.static Bundle.tN "SUPPRESSED_SENTINEL" Bundle.listD)) && decide (w ≠ .laysStatic Bundle.tN "UNASSIGNED_STACK" Bundle.steD) && decide (w ≠ .laysStatic Bundle.tN "SUPPRESSED_SENTINEL" Bundle.listD)
def vx_at0 (own : String) (ic : Nat) (X : String) (names : List String) : List Cond := (Bundle.ownAtoms0 own ic X names).filter vx_no
def vx_atS (own : String) (ic : Nat) (X : String) (names : List String) : List Cond := (Bundle.ownAtoms own ic X names).filter vx_no
/-- a word that the tables alone decide, or a good one -/
def vx_ot (w : Cond) : Bool := w.onTables || goodWord w
theorem vx_ot_at {args a' : Array Value} {s U : State} {w : Cond} (hW : s.WarmedH U.vm) (hvm : s.vm = U.vm) (hg : vx_ot w = true) (h : w.before args s = true) : w.before a' U = true := by
  simp only [vx_ot, Bool.or_eq_true] at hg
  rcases hg with hg | hg
  · exact va_tabs hg hvm h
  · exact word_at hW (good_of_word hg) h
/-- a list's words: the good ones out of the method's own list, the others by premises of their own -/
theorem vx_hat {args : Array Value} {s : State} {L B : List Cond} (h1 : ∀ w ∈ L.filter goodWord, w.before args s = true) (h2 : ∀ w ∈ L.filter (fun w => !goodWord w), w ∈ B) (h3 : ∀ w ∈ B, w.before args s = true) : ∀ w ∈ L, w.before args s = true := by
  intro w hw
  by_cases g : goodWord w = true
  · exact h1 w (List.mem_filter.mpr ⟨hw, g⟩)
  · refine h3 w (h2 w (List.mem_filter.mpr ⟨hw, ?_⟩))
    show (!goodWord w) = true
    cases hgw : goodWord w
    · rfl
    · exact absurd hgw g
theorem vx_c {args : Array Value} {s : State} {w : Cond} {B : List Cond} (h : w.before args s = true) (t : ∀ w ∈ B, w.before args s = true) : ∀ w' ∈ w :: B, w'.before args s = true := fun w' h' => (List.mem_cons.mp h').elim (fun e => by rw [e]; exact h) (t w')
theorem vx_n {args : Array Value} {s : State} : ∀ w ∈ ([] : List Cond), w.before args s = true := fun _ h => nomatch h
theorem vx_own {args : Array Value} {s : State} {L : List Cond} (h1 : ∀ w ∈ L.filter vx_no, w.before args s = true)
    (hU : (Cond.isRef (.static Bundle.tN "UNASSIGNED_STACK" Bundle.steD)).before args s = true) (hN : (Cond.isRef (.static Bundle.tN "SUPPRESSED_SENTINEL" Bundle.listD)).before args s = true)
    (lU : (Cond.laysStatic Bundle.tN "UNASSIGNED_STACK" Bundle.steD).before args s = true) (lN : (Cond.laysStatic Bundle.tN "SUPPRESSED_SENTINEL" Bundle.listD).before args s = true) : ∀ w ∈ L, w.before args s = true := by
  intro w hw
  by_cases e1 : w = .isRef (.static Bundle.tN "UNASSIGNED_STACK" Bundle.steD)
  · rw [e1]; exact hU
  · by_cases e2 : w = .isRef (.static Bundle.tN "SUPPRESSED_SENTINEL" Bundle.listD)
    · rw [e2]; exact hN
    · by_cases e3 : w = .laysStatic Bundle.tN "UNASSIGNED_STACK" Bundle.steD
      · rw [e3]; exact lU
      · by_cases e4 : w = .laysStatic Bundle.tN "SUPPRESSED_SENTINEL" Bundle.listD
        · rw [e4]; exact lN
        · exact h1 w (List.mem_filter.mpr ⟨hw, by unfold vx_no; rw [decide_eq_true e1, decide_eq_true e2, decide_eq_true e3, decide_eq_true e4]; rfl⟩)
/-- where a static field lies, its class's statics cell in H -/
def vx_L (C n d : String) (A : Nat → Prop) (U : State) (H : Heap) : Prop := ∃ (c : ClassId) (k : Class) (i : Nat) (f : Field) (a : Nat) (cell : Cell), U.vm.findClass C = some c ∧ U.fieldFound? C n d = some (c, k, i, f) ∧ f.isStatic = true ∧ k.statics = some a ∧ H[a]? = some cell ∧ cell.vm.isStatics = true ∧ cell.cls = c ∧ f.slot < cell.slots.size ∧ k.staticTypes[f.slot]? = some f.type ∧ ¬ A a
theorem vx_L.moved {C n d : String} {A : Nat → Prop} {u U : State} {H : Heap} (hvm : u.vm.Alike U.vm) (h : vx_L C n d A u H) : vx_L C n d A U H := by
  obtain ⟨c, k, i, f, a, cell, h1, h2, h3, h4, h5, h6, h7, h8, h9, h10⟩ := h
  obtain ⟨k', hi', he⟩ := State.fieldFound?_setVm hvm h2
  exact ⟨c, k', i, f, a, cell, by rw [hvm.findClass]; exact h1, hi', h3, by rw [he]; exact h4, h5, h6, h7, h8, by rw [he]; exact h9, h10⟩
theorem vx_L.kept {C n d : String} {A : Nat → Prop} {U : State} {H H1 : Heap} (h : vx_L C n d A U H) (hq : ∀ a : Nat, a < H.size → ¬ A a → H1[a]? = H[a]?) : vx_L C n d A U H1 := by
  obtain ⟨c, k, i, f, a, cell, h1, h2, h3, h4, h5, h6, h7, h8, h9, h10⟩ := h
  exact ⟨c, k, i, f, a, cell, h1, h2, h3, h4, by rw [hq a (Array.getElem?_eq_some_iff.mp h5).1 h10]; exact h5, h6, h7, h8, h9, h10⟩
theorem vx_L.narrow {C n d : String} {A B : Nat → Prop} {U : State} {H : Heap} (h : vx_L C n d A U H) (hAB : ∀ q, B q → A q) : vx_L C n d B U H := by
  obtain ⟨c, k, i, f, a, cell, h1, h2, h3, h4, h5, h6, h7, h8, h9, h10⟩ := h
  exact ⟨c, k, i, f, a, cell, h1, h2, h3, h4, h5, h6, h7, h8, h9, fun z => h10 (hAB _ z)⟩
theorem vx_L.word {C n d : String} {A : Nat → Prop} {s : State} {args : Array Value} (h : vx_L C n d A s s.heap) : (Cond.laysStatic C n d).before args s = true := by
  obtain ⟨c, k, i, f, a, cell, h1, h2, h3, h4, h5, h6, h7, h8, h9, -⟩ := h
  show (Cond.laysStatic C n d).holds args s none s [] = true
  exact Cond.laysStatic_of h1 h2 h3 h4 h5 h6 h7 h8 h9
/-- .. and what it holds: null or some reference -/
def vx_Zq (C n d : String) (A : Nat → Prop) (U : State) (H : Heap) : Prop := va_Zq C n d A U H ∧ vx_L C n d A U H
theorem vx_Zq.moved {C n d : String} {A : Nat → Prop} {u U : State} {H : Heap} (hvm : u.vm.Alike U.vm) (h : vx_Zq C n d A u H) : vx_Zq C n d A U H := ⟨va_Zq.moved hvm h.1, vx_L.moved hvm h.2⟩
theorem vx_Zq.kept {C n d : String} {A : Nat → Prop} {U : State} {H H1 : Heap} (h : vx_Zq C n d A U H) (hq : ∀ a : Nat, a < H.size → ¬ A a → H1[a]? = H[a]?) : vx_Zq C n d A U H1 := ⟨va_Zq.kept h.1 hq, vx_L.kept h.2 hq⟩
theorem vx_Zq.narrow {C n d : String} {A B : Nat → Prop} {U : State} {H : Heap} (h : vx_Zq C n d A U H) (hAB : ∀ q, B q → A q) : vx_Zq C n d B U H := ⟨va_Zq.narrow h.1 hAB, vx_L.narrow h.2 hAB⟩
theorem vx_Zqof {args : Array Value} {s : State} {C n d : String} {A : Nat → Prop} (hl : (Cond.laysStatic C n d).before args s = true) (hini : (Cond.initialized C).before args s = true) (h : (Cond.isRef (.static C n d)).before args s = true) (hA : ∀ a : Nat, a < s.heap.size → ¬ A a) : vx_Zq C n d A s s.heap := by
  refine ⟨va_Zqof hl hini h hA, ?_⟩
  obtain ⟨c, k, i, f, a, cell, h1, h2, h3, h4, h5, h6, h7, h8, h9⟩ := Cond.laysStatic_spec hl
  exact ⟨c, k, i, f, a, cell, h1, h2, h3, h4, h5, h6, h7, h8, h9, hA a (Array.getElem?_eq_some_iff.mp h5).1⟩
theorem vx_isRef {C n d : String} {v : Value} {A : Nat → Prop} {s : State} {args : Array Value} (h : va_Z C n d v A s s.heap) (hv : v.isRef = true) : (Cond.isRef (.static C n d)).before args s = true := by
  obtain ⟨cf, kf, fi, f, a, cell, h1, h2, h3, h4, h5, h6, h7, -⟩ := h
  have he : (Term.static C n d).eval args s none [] s = some v := by
    simp [Term.eval, State.fieldNamed?, h1, h2, h4, h5, h6, h7]
  simp only [Cond.before, Cond.holds, Cond.value, he]
  cases v <;> simp_all [Value.isRef]
theorem vx_isRefq {C n d : String} {A : Nat → Prop} {s : State} {args : Array Value} (h : va_Zq C n d A s s.heap) : (Cond.isRef (.static C n d)).before args s = true := by
  rcases h with h | ⟨t, h⟩
  · exact vx_isRef h rfl
  · exact vx_isRef h rfl
/-- the same frame, seen from here: as if the method were called anew in this heap -/
theorem vx_rebase {T : State} (X : Stand p l e R s m args below meth c T locs cells slots) {R' : Room} (hf : R'.frames ≤ R.frames) (hl : R'.locals ≤ R.locals) (hc : cells + R'.cells ≤ R.cells) (hs : slots + R'.slots ≤ R.slots) :
    Stand p l e R' ((T.setVm s.vm).setFrames (.invoking m args :: below)) m args below meth c T [] 0 0 := by
  have htop : (T.setVm s.vm).topJava?.isSome := X.here.top
  have hF : ((T.setVm s.vm).setFrames (.invoking m args :: below)).frames = .invoking m args :: below := State.frames_setFrames _ (State.cur_lt_of_top htop)
  obtain ⟨g₀, hg0⟩ := Option.isSome_iff_exists.mp htop
  obtain ⟨r, hr⟩ := State.topJava?_eq_some.mp hg0
  have hl9 : e.platform.stackLimits (T.setVm s.vm).me = e.platform.stackLimits s.me := X.limits
  have hb9 : (T.setVm s.vm).me.stackBytes = s.me.stackBytes := X.bytes
  refine ⟨X.admits, X.cas, X.clock, hF, ?_, X.hears, X.method, X.code, X.here, X.tail, X.warmed, ?_, ?_, ?_⟩
  · have h := X.room
    have hU : ((T.setVm s.vm).setFrames (.invoking m args :: below)).localsInUse = s.localsInUse := by
      rw [State.localsInUse_invoking hF (meth := meth) (c := c) X.method X.code, State.localsInUse_invoking X.frames X.method X.code]
    simp only [State.hasRoom, Bool.and_eq_true, decide_eq_true_eq] at h ⊢
    obtain ⟨⟨⟨⟨h1, h2, h3, h4, h5, h6⟩, h7⟩, h8⟩, h9⟩ := h
    rw [X.frames, List.length_cons] at h2 h3
    have q1 := X.heapSize
    have q2 := X.used
    simp only [hF, hU, List.length_cons, State.stackLimits_setFrames, State.stackBytes_setFrames, hl9, hb9]
    refine ⟨⟨⟨⟨by omega, by omega, by omega, by omega, by omega, h6⟩, ?_⟩, ?_⟩, X.book⟩
    · show T.heap.size + R'.cells ≤ e.platform.maxCells
      omega
    · show T.slotsUsed + R'.slots ≤ e.platform.maxSlots
      omega
  · rw [State.stackLimits_setFrames]; rfl
  · rw [State.stackBytes_setFrames]; rfl
  · refine ⟨?_, Nat.le_refl _, Nat.le_refl _, ?_, ?_, fun a c9 h9 => ⟨c9, h9, rfl, rfl, fun _ _ => rfl⟩⟩
    · obtain ⟨t, ht, -⟩ := State.frames_cons hr
      show T.setVm s.vm = { ((T.setVm s.vm).setFrames (.invoking m args :: below)).setFrames (T.setVm s.vm).frames with heap := T.heap, slotsUsed := T.slotsUsed }
      rw [State.setFrames_setFrames, State.setFrames_self ht]
      rfl
    · show T.slotsUsed = T.slotsUsed + ((T.heap.toList.drop T.heap.size).map (·.slots.size)).sum
      rw [List.drop_eq_nil_of_le (Nat.le_of_eq Array.length_toList)]
      rfl
    · show ((T.heap.toList.drop T.heap.size).map (·.slots.size)).sum ≤ 0
      rw [List.drop_eq_nil_of_le (Nat.le_of_eq Array.length_toList)]
      exact Nat.le_refl _
/-- 'throw new E()': new; dup; invokespecial; athrow -/
theorem vx_throw0 {cc : ByteArray} {pc : Nat} (hexec : p.tables.exec = Jvm.exec) (hb : c.code = cc) (hl : l.stackTraces = false) {own cls : String} {names : List String} {ik ic mc ms : Nat} {A : Nat → Prop}
    (hown : s.vm.findClass own = some m.cls) (hcls : Bundle.fit cls = true) (hnames : ∀ n ∈ names, Bundle.fit n = true)
    (hk : (Cond.classLink own ik cls).before args s = true) (hini : (Cond.initialized cls).before args s = true) (hat : ∀ w ∈ vx_at0 own ic cls names, w.before args s = true)
    (hgood : ∀ w ∈ Cond.classLink own ik cls :: Cond.initialized cls :: vx_at0 own ic cls names, vx_ot w = true)
    (hU : vx_Zq Bundle.tN "UNASSIGNED_STACK" Bundle.steD A s s.heap) (hN : vx_Zq Bundle.tN "SUPPRESSED_SENTINEL" Bundle.listD A s s.heap) (hS : va_S A s.heap H locs) (hsize : ls.size = c.maxLocals)
    (d0 : decode cc pc = .ok (.new ik, 3)) (d3 : decode cc (pc + 3) = .ok (.dup, 1)) (d4 : decode cc (pc + 4) = .ok (.invokespecial ic, 3)) (d7 : decode cc (pc + 7) = .ok (.athrow, 1))
    (hout : ∀ x ∈ c.exceptionTable.toList, covers x (pc + 7) = false)
    (hRframes : names.length + 3 < R.frames) (hRlocals : (rest.map fun v => v.category).sum + (13 * (names.length + 1) + 42) ≤ R.locals) (hRcells : cells + 1 ≤ R.cells) (hRslots : slots + 6 ≤ R.slots) (hlocks : meth.locks = false)
    (hx : ∀ t : State, s.vm.Alike t.vm → H.size ≤ t.heap.size → (∀ q : Nat, q < H.size → t.heap[q]? = H[q]?) → XC cls s t)
    (hf : ∀ z ∈ locs, free z.base) (hc : cells + 1 ≤ mc) (hs : slots + 6 ≤ ms) :
    W p l e R s m args below meth c H locs cells slots (vx_MQ below Qc XC args s mc ms free) (F0 m pc ls rest) := by
  intro T hT X
  have htr : e.platform.stackTraces = false := (show e.platform.stackTraces = l.stackTraces by rw [X.admits.platform]).trans hl
  have Y := vx_rebase X (R' := { frames := R.frames, locals := R.locals, cells := 1, slots := 6 }) (Nat.le_refl _) (Nat.le_refl _) hRcells hRslots
  obtain ⟨s', hA⟩ : ∃ z, z = (T.setVm s.vm).setFrames (.invoking m args :: below) := ⟨_, rfl⟩
  rw [← hA] at Y
  have hvm : s'.vm = s.vm := by rw [hA]; rfl
  have hhp : s'.heap = H := by rw [hA]; exact hT
  have hW0 : s.WarmedH s'.vm := by rw [hvm]; exact State.WarmedH.refl s
  have hat' : ∀ w ∈ vx_at0 own ic cls names, w.before args s' = true := fun w hw => vx_ot_at hW0 hvm.symm (hgood w (List.mem_cons_of_mem _ (List.mem_cons_of_mem _ hw))) (hat w hw)
  have hk' : (Cond.classLink own ik cls).before args s' = true := vx_ot_at hW0 hvm.symm (hgood _ List.mem_cons_self) hk
  have hini' : (Cond.initialized cls).before args s' = true := vx_ot_at hW0 hvm.symm (hgood _ (List.mem_cons_of_mem _ List.mem_cons_self)) hini
  have hU' : vx_Zq Bundle.tN "UNASSIGNED_STACK" Bundle.steD A s' s'.heap := by rw [hhp]; exact vx_Zq.moved hW0.alike (hU.kept hS.2.1)
  have hN' : vx_Zq Bundle.tN "SUPPRESSED_SENTINEL" Bundle.listD A s' s'.heap := by rw [hhp]; exact vx_Zq.moved hW0.alike (hN.kept hS.2.1)
  have h : ∀ w ∈ Bundle.ownAtoms0 own ic cls names, w.before args s' = true := vx_own hat' (vx_isRefq hU'.1) (vx_isRefq hN'.1) hU'.2.word hN'.2.word
  have hown' : s'.vm.findClass own = some m.cls := by rw [hvm]; exact hown
  have hins : (Cond.instantiable cls 6).before args s' = true := h _ (by simp [Bundle.ownAtoms0])
  obtain ⟨vm₁, cX, kX, hfX, hkX, -, -, X₁, st1⟩ := Y.newCold hexec (own := own) (C := cls) (index := ik) (n := 6) hown' hk' hins hini'
    (g := F0 m pc ls rest) rfl (by rw [hb]; exact d0) (Nat.le_refl _) (Nat.le_refl _)
  generalize hT1 : (T.setVm vm₁).pushCell { cls := cX, slots := kX.instanceTypes.map defaultValue, vm := .none } = T1 at X₁ st1
  have hcat : (Value.ref T.heap.size).category = 1 := rfl
  have hcellA : T1.heap[T.heap.size]? = some (freshCell cX kX) := by rw [← hT1]; exact State.heap_pushCell_size _ _
  have d3' : decode c.code (pc + 3) = .ok (.dup, 1) := by rw [hb]; exact d3
  obtain ⟨U, hsteps, hrun, hend, hW, hsame, ce, hce, hO⟩ := X₁.ctorThrow0 hexec htr (own := own) (cls := cls) (names := names) (ic := ic) hown' hcls hnames h (fun x hx => nomatch hx) hfX hkX hcellA (by rw [hhp, hT]; exact Nat.le_refl _)
    (g := { method := m, pc := pc + 4, locals := ls, stack := .ref T.heap.size :: .ref T.heap.size :: rest, locked := none }) rfl hsize rfl rfl (rest := rest) rfl
    (by rw [hb]; exact d4) (by rw [hb]; exact d7) hout hRframes (by simp only [List.map_cons, List.sum_cons, hcat]; omega) hlocks
  obtain ⟨f1, f2⟩ := vx_frame hsame
  rw [hhp] at f1 f2
  have hWs : s.WarmedH U.vm := State.WarmedH.trans hW0 hW
  have hcl : s.vm.findClass cls = some ce.cls := by
    have h9 := hO.cls
    rw [hvm] at h9
    exact h9
  have hall : s.sameButNew ({ U with vm := s.vm } : State) locs mc ms := by
    subst hA
    obtain ⟨e1, e2⟩ := hsame
    rw [State.setFrames_setFrames] at e1
    have h2 : (T.setVm s.vm).sameButNew ({ U with vm := s.vm } : State) [] (0 + 1) (0 + 6) := ⟨e1, e2⟩
    have h3 := X.same.trans h2
    rw [List.append_nil] at h3
    exact h3.mono hc hs
  refine ⟨U, ?_, .threw T.heap.size, hrun, hend, Or.inr ⟨T.heap.size, rfl, cls, ce, locs, hx U hWs.alike f1 (fun q hq => f2 q hq (fun z hz => nomatch hz)), hce, hO.vm, hcl, hWs, hall, hf⟩⟩
  refine st1 _ ?_
  show Steps p.tables e below (T1.setTop { method := m, pc := pc + 3, locals := ls, stack := .ref T.heap.size :: rest, locked := none }) _
  jvm_step X₁.here [X₁.here.top, hexec, d3', Value.category]
  exact hsteps
/-- 'throw new E("text")': new; dup; ldc; invokespecial; athrow -/
theorem vx_throwS {cc : ByteArray} {pc : Nat} (hexec : p.tables.exec = Jvm.exec) (hb : c.code = cc) (hl : l.stackTraces = false) {own cls text : String} {names : List String} {ik is ic mc ms sa : Nat} {A : Nat → Prop}
    (hown : s.vm.findClass own = some m.cls) (hcls : Bundle.fit cls = true) (hnames : ∀ n ∈ names, Bundle.fit n = true)
    (hk : (Cond.classLink own ik cls).before args s = true) (hini : (Cond.initialized cls).before args s = true) (hstr : vk_R own is text sa s) (hat : ∀ w ∈ vx_atS own ic cls names, w.before args s = true)
    (hgood : ∀ w ∈ Cond.classLink own ik cls :: Cond.initialized cls :: vx_atS own ic cls names, vx_ot w = true)
    (hU : vx_Zq Bundle.tN "UNASSIGNED_STACK" Bundle.steD A s s.heap) (hN : vx_Zq Bundle.tN "SUPPRESSED_SENTINEL" Bundle.listD A s s.heap) (hS : va_S A s.heap H locs) (hsize : ls.size = c.maxLocals)
    (d0 : decode cc pc = .ok (.new ik, 3)) (d3 : decode cc (pc + 3) = .ok (.dup, 1)) (d4 : decode cc (pc + 4) = .ok (.ldc is, 2)) (d6 : decode cc (pc + 6) = .ok (.invokespecial ic, 3)) (d9 : decode cc (pc + 9) = .ok (.athrow, 1))
    (hout : ∀ x ∈ c.exceptionTable.toList, covers x (pc + 9) = false)
    (hRframes : names.length + 3 < R.frames) (hRlocals : (rest.map fun v => v.category).sum + (13 * (names.length + 1) + 43) ≤ R.locals) (hRcells : cells + 1 ≤ R.cells) (hRslots : slots + 6 ≤ R.slots) (hlocks : meth.locks = false)
    (hx : ∀ t : State, s.vm.Alike t.vm → H.size ≤ t.heap.size → (∀ q : Nat, q < H.size → t.heap[q]? = H[q]?) → XC cls s t)
    (hf : ∀ z ∈ locs, free z.base) (hc : cells + 1 ≤ mc) (hs : slots + 6 ≤ ms) :
    W p l e R s m args below meth c H locs cells slots (vx_MQ below Qc XC args s mc ms free) (F0 m pc ls rest) := by
  intro T hT X
  have htr : e.platform.stackTraces = false := (show e.platform.stackTraces = l.stackTraces by rw [X.admits.platform]).trans hl
  have Y := vx_rebase X (R' := { frames := R.frames, locals := R.locals, cells := 1, slots := 6 }) (Nat.le_refl _) (Nat.le_refl _) hRcells hRslots
  obtain ⟨s', hA⟩ : ∃ z, z = (T.setVm s.vm).setFrames (.invoking m args :: below) := ⟨_, rfl⟩
  rw [← hA] at Y
  have hvm : s'.vm = s.vm := by rw [hA]; rfl
  have hhp : s'.heap = H := by rw [hA]; exact hT
  have hW0 : s.WarmedH s'.vm := by rw [hvm]; exact State.WarmedH.refl s
  have hat' : ∀ w ∈ vx_atS own ic cls names, w.before args s' = true := fun w hw => vx_ot_at hW0 hvm.symm (hgood w (List.mem_cons_of_mem _ (List.mem_cons_of_mem _ hw))) (hat w hw)
  have hk' : (Cond.classLink own ik cls).before args s' = true := vx_ot_at hW0 hvm.symm (hgood _ List.mem_cons_self) hk
  have hini' : (Cond.initialized cls).before args s' = true := vx_ot_at hW0 hvm.symm (hgood _ (List.mem_cons_of_mem _ List.mem_cons_self)) hini
  have hU' : vx_Zq Bundle.tN "UNASSIGNED_STACK" Bundle.steD A s' s'.heap := by rw [hhp]; exact vx_Zq.moved hW0.alike (hU.kept hS.2.1)
  have hN' : vx_Zq Bundle.tN "SUPPRESSED_SENTINEL" Bundle.listD A s' s'.heap := by rw [hhp]; exact vx_Zq.moved hW0.alike (hN.kept hS.2.1)
  have h : ∀ w ∈ Bundle.ownAtoms own ic cls names, w.before args s' = true := vx_own hat' (vx_isRefq hU'.1) (vx_isRefq hN'.1) hU'.2.word hN'.2.word
  have hown' : s'.vm.findClass own = some m.cls := by rw [hvm]; exact hown
  have hins : (Cond.instantiable cls 6).before args s' = true := h _ (by simp [Bundle.ownAtoms])
  obtain ⟨vm₁, cX, kX, hfX, hkX, -, -, X₁, st1⟩ := Y.newCold hexec (own := own) (C := cls) (index := ik) (n := 6) hown' hk' hins hini'
    (g := F0 m pc ls rest) rfl (by rw [hb]; exact d0) (Nat.le_refl _) (Nat.le_refl _)
  generalize hT1 : (T.setVm vm₁).pushCell { cls := cX, slots := kX.instanceTypes.map defaultValue, vm := .none } = T1 at X₁ st1
  have hcat : (Value.ref T.heap.size).category = 1 := rfl
  have hcellA : T1.heap[T.heap.size]? = some (freshCell cX kX) := by rw [← hT1]; exact State.heap_pushCell_size _ _
  have d3' : decode c.code (pc + 3) = .ok (.dup, 1) := by rw [hb]; exact d3
  have d4' : decode c.code (pc + 4) = .ok (.ldc is, 2) := by rw [hb]; exact d4
  have hstr' : vk_R own is text sa s' := vk_R.warm hW0 hstr
  obtain ⟨U, hsteps, hrun, hend, hW, hsame, ce, hce, hO⟩ := X₁.ctorThrowS hexec htr (own := own) (cls := cls) (names := names) (ic := ic) hown' hcls hnames h (fun x hx => nomatch hx) hfX hkX hcellA (by rw [hhp, hT]; exact Nat.le_refl _) (msg := .ref sa) rfl
    (g := { method := m, pc := pc + 6, locals := ls, stack := .ref sa :: .ref T.heap.size :: .ref T.heap.size :: rest, locked := none }) rfl hsize rfl rfl (rest := rest) rfl
    (by rw [hb]; exact d6) (by rw [hb]; exact d9) hout hRframes (by simp only [List.map_cons, List.sum_cons, hcat]; omega) hlocks
  obtain ⟨f1, f2⟩ := vx_frame hsame
  rw [hhp] at f1 f2
  have hWs : s.WarmedH U.vm := State.WarmedH.trans hW0 hW
  have hcl : s.vm.findClass cls = some ce.cls := by
    have h9 := hO.cls
    rw [hvm] at h9
    exact h9
  have hall : s.sameButNew ({ U with vm := s.vm } : State) locs mc ms := by
    subst hA
    obtain ⟨e1, e2⟩ := hsame
    rw [State.setFrames_setFrames] at e1
    have h2 : (T.setVm s.vm).sameButNew ({ U with vm := s.vm } : State) [] (0 + 1) (0 + 6) := ⟨e1, e2⟩
    have h3 := X.same.trans h2
    rw [List.append_nil] at h3
    exact h3.mono hc hs
  refine ⟨U, ?_, .threw T.heap.size, hrun, hend, Or.inr ⟨T.heap.size, rfl, cls, ce, locs, hx U hWs.alike f1 (fun q hq => f2 q hq (fun z hz => nomatch hz)), hce, hO.vm, hcl, hWs, hall, hf⟩⟩
  refine st1 _ ?_
  show Steps p.tables e below (T1.setTop { method := m, pc := pc + 3, locals := ls, stack := .ref T.heap.size :: rest, locked := none }) _
  jvm_step X₁.here [X₁.here.top, hexec, d3', Value.category]
  exact X₁.ldcString hexec (own := own) (text := text) (index := is) (a := sa) hown' hstr'.1 hstr'.2
    (g := { method := m, pc := pc + 4, locals := ls, stack := .ref T.heap.size :: .ref T.heap.size :: rest, locked := none }) rfl d4' _ hsteps
/-- 'throw new E("text")', the text by a wide index -/
theorem vx_throwSW {cc : ByteArray} {pc : Nat} (hexec : p.tables.exec = Jvm.exec) (hb : c.code = cc) (hl : l.stackTraces = false) {own cls text : String} {names : List String} {ik is ic mc ms sa : Nat} {A : Nat → Prop}
    (hown : s.vm.findClass own = some m.cls) (hcls : Bundle.fit cls = true) (hnames : ∀ n ∈ names, Bundle.fit n = true)
    (hk : (Cond.classLink own ik cls).before args s = true) (hini : (Cond.initialized cls).before args s = true) (hstr : vk_R own is text sa s) (hat : ∀ w ∈ vx_atS own ic cls names, w.before args s = true)
    (hgood : ∀ w ∈ Cond.classLink own ik cls :: Cond.initialized cls :: vx_atS own ic cls names, vx_ot w = true)
    (hU : vx_Zq Bundle.tN "UNASSIGNED_STACK" Bundle.steD A s s.heap) (hN : vx_Zq Bundle.tN "SUPPRESSED_SENTINEL" Bundle.listD A s s.heap) (hS : va_S A s.heap H locs) (hsize : ls.size = c.maxLocals)
    (d0 : decode cc pc = .ok (.new ik, 3)) (d3 : decode cc (pc + 3) = .ok (.dup, 1)) (d4 : decode cc (pc + 4) = .ok (.ldc_w is, 3)) (d7 : decode cc (pc + 7) = .ok (.invokespecial ic, 3)) (d10 : decode cc (pc + 10) = .ok (.athrow, 1))
    (hout : ∀ x ∈ c.exceptionTable.toList, covers x (pc + 10) = false)
    (hRframes : names.length + 3 < R.frames) (hRlocals : (rest.map fun v => v.category).sum + (13 * (names.length + 1) + 43) ≤ R.locals) (hRcells : cells + 1 ≤ R.cells) (hRslots : slots + 6 ≤ R.slots) (hlocks : meth.locks = false)
    (hx : ∀ t : State, s.vm.Alike t.vm → H.size ≤ t.heap.size → (∀ q : Nat, q < H.size → t.heap[q]? = H[q]?) → XC cls s t)
    (hf : ∀ z ∈ locs, free z.base) (hc : cells + 1 ≤ mc) (hs : slots + 6 ≤ ms) :
    W p l e R s m args below meth c H locs cells slots (vx_MQ below Qc XC args s mc ms free) (F0 m pc ls rest) := by
  intro T hT X
  have htr : e.platform.stackTraces = false := (show e.platform.stackTraces = l.stackTraces by rw [X.admits.platform]).trans hl
  have Y := vx_rebase X (R' := { frames := R.frames, locals := R.locals, cells := 1, slots := 6 }) (Nat.le_refl _) (Nat.le_refl _) hRcells hRslots
  obtain ⟨s', hA⟩ : ∃ z, z = (T.setVm s.vm).setFrames (.invoking m args :: below) := ⟨_, rfl⟩
  rw [← hA] at Y
  have hvm : s'.vm = s.vm := by rw [hA]; rfl
  have hhp : s'.heap = H := by rw [hA]; exact hT
  have hW0 : s.WarmedH s'.vm := by rw [hvm]; exact State.WarmedH.refl s
  have hat' : ∀ w ∈ vx_atS own ic cls names, w.before args s' = true := fun w hw => vx_ot_at hW0 hvm.symm (hgood w (List.mem_cons_of_mem _ (List.mem_cons_of_mem _ hw))) (hat w hw)
  have hk' : (Cond.classLink own ik cls).before args s' = true := vx_ot_at hW0 hvm.symm (hgood _ List.mem_cons_self) hk
  have hini' : (Cond.initialized cls).before args s' = true := vx_ot_at hW0 hvm.symm (hgood _ (List.mem_cons_of_mem _ List.mem_cons_self)) hini
  have hU' : vx_Zq Bundle.tN "UNASSIGNED_STACK" Bundle.steD A s' s'.heap := by rw [hhp]; exact vx_Zq.moved hW0.alike (hU.kept hS.2.1)
  have hN' : vx_Zq Bundle.tN "SUPPRESSED_SENTINEL" Bundle.listD A s' s'.heap := by rw [hhp]; exact vx_Zq.moved hW0.alike (hN.kept hS.2.1)
  have h : ∀ w ∈ Bundle.ownAtoms own ic cls names, w.before args s' = true := vx_own hat' (vx_isRefq hU'.1) (vx_isRefq hN'.1) hU'.2.word hN'.2.word
  have hown' : s'.vm.findClass own = some m.cls := by rw [hvm]; exact hown
  have hins : (Cond.instantiable cls 6).before args s' = true := h _ (by simp [Bundle.ownAtoms])
  obtain ⟨vm₁, cX, kX, hfX, hkX, -, -, X₁, st1⟩ := Y.newCold hexec (own := own) (C := cls) (index := ik) (n := 6) hown' hk' hins hini'
    (g := F0 m pc ls rest) rfl (by rw [hb]; exact d0) (Nat.le_refl _) (Nat.le_refl _)
  generalize hT1 : (T.setVm vm₁).pushCell { cls := cX, slots := kX.instanceTypes.map defaultValue, vm := .none } = T1 at X₁ st1
  have hcat : (Value.ref T.heap.size).category = 1 := rfl
  have hcellA : T1.heap[T.heap.size]? = some (freshCell cX kX) := by rw [← hT1]; exact State.heap_pushCell_size _ _
  have d3' : decode c.code (pc + 3) = .ok (.dup, 1) := by rw [hb]; exact d3
  have d4' : decode c.code (pc + 4) = .ok (.ldc_w is, 3) := by rw [hb]; exact d4
  have hstr' : vk_R own is text sa s' := vk_R.warm hW0 hstr
  obtain ⟨U, hsteps, hrun, hend, hW, hsame, ce, hce, hO⟩ := X₁.ctorThrowS hexec htr (own := own) (cls := cls) (names := names) (ic := ic) hown' hcls hnames h (fun x hx => nomatch hx) hfX hkX hcellA (by rw [hhp, hT]; exact Nat.le_refl _) (msg := .ref sa) rfl
    (g := { method := m, pc := pc + 7, locals := ls, stack := .ref sa :: .ref T.heap.size :: .ref T.heap.size :: rest, locked := none }) rfl hsize rfl rfl (rest := rest) rfl
    (by rw [hb]; exact d7) (by rw [hb]; exact d10) hout hRframes (by simp only [List.map_cons, List.sum_cons, hcat]; omega) hlocks
  obtain ⟨f1, f2⟩ := vx_frame hsame
  rw [hhp] at f1 f2
  have hWs : s.WarmedH U.vm := State.WarmedH.trans hW0 hW
  have hcl : s.vm.findClass cls = some ce.cls := by
    have h9 := hO.cls
    rw [hvm] at h9
    exact h9
  have hall : s.sameButNew ({ U with vm := s.vm } : State) locs mc ms := by
    subst hA
    obtain ⟨e1, e2⟩ := hsame
    rw [State.setFrames_setFrames] at e1
    have h2 : (T.setVm s.vm).sameButNew ({ U with vm := s.vm } : State) [] (0 + 1) (0 + 6) := ⟨e1, e2⟩
    have h3 := X.same.trans h2
    rw [List.append_nil] at h3
    exact h3.mono hc hs
  refine ⟨U, ?_, .threw T.heap.size, hrun, hend, Or.inr ⟨T.heap.size, rfl, cls, ce, locs, hx U hWs.alike f1 (fun q hq => f2 q hq (fun z hz => nomatch hz)), hce, hO.vm, hcl, hWs, hall, hf⟩⟩
  refine st1 _ ?_
  show Steps p.tables e below (T1.setTop { method := m, pc := pc + 3, locals := ls, stack := .ref T.heap.size :: rest, locked := none }) _
  jvm_step X₁.here [X₁.here.top, hexec, d3', Value.category]
  exact X₁.ldcStringW hexec (own := own) (text := text) (index := is) (a := sa) hown' hstr'.1 hstr'.2
    (g := { method := m, pc := pc + 4, locals := ls, stack := .ref T.heap.size :: .ref T.heap.size :: rest, locked := none }) rfl d4' _ hsteps
end Ends
section Bodies
variable {l : Launch}
theorem vx_ofW {y : MethodName} {ws ws' : List Cond} {rm : Room} {Pc : Array Value → State → Prop} {Qc : Array Value → State → Outcome → State → Prop} {XC : String → State → State → Prop} {mc ms : Nat} {free : Addr → Prop} {cc : ByteArray} {maxL : Nat} {ret : Option FieldType}
    (hy : plainName y.cls = true) (hw : ws = Cond.code y cc maxL ret :: ws')
    (body : ∀ p e s m args below meth c s₁, BodyLoose p l y (headSpec ws rm) cc maxL ret e s m args below meth c s₁ → c.maxLocals = maxL → (∀ x ∈ c.exceptionTable.toList, False) → Pc args s →
      W p l e (headSpec ws rm).room s m args below meth c s.heap [] 0 0 (vx_MQ below Qc XC args s mc ms free) (entryFrame m args maxL)) : vx_Met l y ws rm Pc Qc XC mc ms free := by
  refine MetFree.of_bodyS (code := cc) (maxLocals := maxL) (ret := ret) hy ?_ ?_
  · intro args s m h hn
    obtain ⟨meth, c, h1, h2, h3, h4, h5, h6, -, -⟩ := Cond.code_spec hn (atoms_spec (ws := ws) h _ (by rw [hw]; exact List.mem_cons_self))
    exact ⟨meth, c, h1, h2, h3, h4, h5, h6⟩
  · intro p e s m args below meth c s₁ B hml hP _
    have hh0 : s₁.heap = s.heap := by rw [B.state]; rfl
    have ht : ∀ x ∈ c.exceptionTable.toList, False := by
      obtain ⟨meth9, c9, h1, h2, -, -, -, -, h7, -⟩ := Cond.code_spec B.named (atoms_spec (ws := ws) B.pre _ (by rw [hw]; exact List.mem_cons_self))
      cases Option.some.inj (h1.symm.trans B.method)
      cases Option.some.inj (h2.symm.trans (Stand.of_body B).code)
      intro x hx
      rw [Array.isEmpty_iff.mp h7] at hx
      cases hx
    obtain ⟨t, a1, o, b1, b2, b3⟩ := body p e s m args below meth c s₁ B hml ht hP s₁ hh0 (Stand.of_body B)
    exact ⟨t, o, a1, b1, b2, b3⟩
/-- the table of a body with handlers -/
theorem vx_table {p : Program} {x y : MethodName} {S : Spec} {cc bytes : ByteArray} {maxL maxL' : Nat} {ret ret' : Option FieldType} {e : Env} {s s₁ : State} {m : MethodId} {args : Array Value} {below : List Frame} {meth : Method} {c : Code} {hh : List (Nat × Nat × Nat × Nat)}
    (B : BodyLoose p l y S cc maxL ret e s m args below meth c s₁) (h : (Cond.codeWith y bytes maxL' ret' hh).before args s = true) : c.exceptionTable.toList = tableOf hh := by
  obtain ⟨m9, meth9, c9, hn9, h1, h2, -, -, h6, -⟩ := Cond.codeWith_spec h
  cases Option.some.inj (hn9.symm.trans B.named)
  cases Option.some.inj (h1.symm.trans B.method)
  cases Option.some.inj (h2.symm.trans (Stand.of_body B).code)
  rw [← h6, table_eq]
end Bodies
end VXA
/-! ===== END ===== -/
/-! ===== BEGIN a static call of a method with an exception table ===== -/
section VXS
variable {p : Program} {l : Launch} {e : Env} {R : Room} {s : State} {m : MethodId} {args : Array Value} {below : List Frame} {meth : Method} {c : Code} {T : State} {H : Heap} {locs : List Loc} {cells slots : Nat}
abbrev vx_CSW (R : Room) (s : State) (args : Array Value) (own : String) (index : Nat) (y : MethodName) (bytes : ByteArray) (maxL : Nat) (ret : Option FieldType) (hh : List (Nat × Nat × Nat × Nat)) (ws : List Cond) (rm : Room) (mc ms n : Nat) : Prop :=
  (rm.cells = mc ∧ rm.slots = ms ∧ rm.frames + 1 ≤ R.frames ∧ 8 + (maxL + 11) + rm.locals ≤ R.locals ∧ (∀ w ∈ ws, ∀ (a' : Array Value) (U : State), s.WarmedH U.vm → w.before a' U = true) ∧ Cond.codeWith y bytes maxL ret hh ∈ ws) ∧
  (Cond.codeWith y bytes maxL ret hh).before args s = true ∧ (Cond.initialized y.cls).before args s = true ∧ (y.cls ≠ "java/lang/invoke/MethodHandle" ∧ y.cls ≠ "java/lang/invoke/VarHandle") ∧
  (∀ sig, parseMethodDescriptor y.desc = some sig → n = sig.parameters.length) ∧ (Cond.methodLink own index y).before args s = true ∧ (Cond.static y).before args s = true
theorem vx_cwSW {own : String} {index maxL mc ms : Nat} {y : MethodName} {bytes : ByteArray} {ret : Option FieldType} {hh : List (Nat × Nat × Nat × Nat)} {Ts ws ws' : List Cond} {rm : Room} (n : Nat) (ht : ∀ w ∈ Ts, w.before args s = true) (hT : GoodIn Ts (va_wsS own index y ws)) (hw : ws = Cond.codeWith y bytes maxL ret hh :: ws') (hrc : rm.cells = mc) (hrs : rm.slots = ms)
    (hd : y.cls ≠ "java/lang/invoke/MethodHandle" ∧ y.cls ≠ "java/lang/invoke/VarHandle" ∧ (parseMethodDescriptor y.desc).map (fun d => d.parameters.length) = some n) (hR : rm.frames + 1 ≤ R.frames ∧ 8 + (maxL + 11) + rm.locals ≤ R.locals) :
    vx_CSW R s args own index y bytes maxL ret hh ws rm mc ms n := by
  have ok : ∀ w ∈ va_wsS own index y ws, w.before args s = true := fun w h => ht w (hT w h).1
  have hG : GoodIn Ts ws := fun w h => hT w (by unfold va_wsS; exact List.mem_append_right _ h)
  have hc : Cond.codeWith y bytes maxL ret hh ∈ ws := by rw [hw]; exact List.mem_cons_self
  refine ⟨⟨hrc, hrs, hR.1, hR.2, pay_in ht hG, hc⟩, ht _ (hG _ hc).1, ok _ (by simp [va_wsS]), ⟨hd.1, hd.2.1⟩, fun sig h => ?_, ok _ (by simp [va_wsS]), ok _ (by simp [va_wsS])⟩
  have h2 := hd.2.2
  rw [h] at h2
  exact (Option.some.inj h2).symm
theorem vx_callSW (X : Stand p l e R s m args below meth c T locs cells slots) (hexec : p.tables.exec = Jvm.exec) {own : String} {index : Nat} {y : MethodName} {bytes : ByteArray} {maxL : Nat} {ret : Option FieldType} {hh : List (Nat × Nat × Nat × Nat)}
    (hown : s.vm.findClass own = some m.cls) (hlink : (Cond.methodLink own index y).before args s = true) (hstat : (Cond.static y).before args s = true) (hinit : (Cond.initialized y.cls).before args s = true)
    (hcode : (Cond.codeWith y bytes maxL ret hh).before args s = true) (hy : y.cls ≠ "java/lang/invoke/MethodHandle" ∧ y.cls ≠ "java/lang/invoke/VarHandle")
    {W9 : Nat} {Pre : Pt → Array Value → Prop} {Post : Pt → Array Value → Option Value → Pt → Prop} (hK : Back l R p e below s args y 3 W9 Pre Post)
    {g : JFrame} (hg : g.method = m) (hsize : g.locals.size = c.maxLocals) {argsL rest : List Value} (hlen : ∀ sig, parseMethodDescriptor y.desc = some sig → argsL.length = sig.parameters.length)
    (hstack : g.stack = argsL.reverse ++ rest) (hW : 2 * g.monitorRoom + (rest.map fun v => v.category).sum ≤ W9) (hdg : decode c.code g.pc = .ok (.invokestatic index, 3))
    (hpre : ∀ vm₁, s.WarmedH vm₁ → Pre ⟨T.setVm vm₁, locs, cells, slots⟩ argsL.toArray) :
    ∃ (v : Option Value) (vm₁ : Vm) (B : Pt), s.WarmedH vm₁ ∧ Stand p l e R s m args below meth c B.U B.locs B.cells B.slots ∧ Post ⟨T.setVm vm₁, locs, cells, slots⟩ argsL.toArray v B ∧
      ∀ target, Steps p.tables e below (B.U.setTop { g with pc := g.pc + 3, stack := v.toList ++ rest }) target → Steps p.tables e below (T.setTop g) target := by
  obtain ⟨mk, methM, cM, hnamed, hmethM, -, -, -, -, -, -, hsigM⟩ := Cond.codeWith_spec hcode
  have hstatic : methM.isStatic = true := Cond.static_spec hnamed hmethM hstat
  obtain ⟨kP, hkP, -⟩ := className_of_methodNamed hnamed
  have hinitP : kP.init = .initialized := Cond.initialized_spec (findClass_of_methodNamed hnamed) hkP hinit
  obtain ⟨vm₁, X₁, hstep₁⟩ := X.invokestatic hexec hown hlink hnamed hmethM hstatic hkP hinitP hy (g := g) hg (argsL := argsL) (rest := rest) (hlen _ hsigM) hstack hdg
  obtain ⟨v, B, X', hpost, hsteps⟩ := hK m meth c ⟨T.setVm vm₁, locs, cells, slots⟩ { g with stack := rest } (.invokestatic index) mk argsL.toArray X₁ hg hsize hdg hW (X₁.named hnamed) (hpre vm₁ X₁.warmed)
  exact ⟨v, vm₁, B, X₁.warmed, X', hpost, fun target h => hstep₁ _ fun acts => by rw [doInvoke_state]; exact hsteps.trans h⟩
theorem vx_runSW {y : MethodName} {bytes cc : ByteArray} {maxL nL mc ms n index : Nat} {ret : Option FieldType} {hh : List (Nat × Nat × Nat × Nat)} {ws : List Cond} {rm : Room} {Pc : Array Value → State → Prop} {Qc : Array Value → State → Outcome → State → Prop} {free : Addr → Prop} {Ts : List Cond} {own : String} {As rest : List Value} {g : JFrame}
    (S : CallFix p m c cc nL s args Ts own) (hM : Met l y ws rm Pc Qc mc ms free) (cw : vx_CSW R s args own index y bytes maxL ret hh ws rm mc ms n) (hp : PreS s H Pc As)
    (hg : g.method = m) (hn : As.length = n) (hsize : g.locals.size = nL) (hstack : g.stack = As.reverse ++ rest) (hW : 2 * g.monitorRoom + (rest.map fun v => v.category).sum ≤ 8) (hdg : decode cc g.pc = .ok (.invokestatic index, 3)) (hf : cells + mc ≤ R.cells ∧ slots + ms ≤ R.slots) :
    va_Run p l e R s m args below meth c H locs cells slots mc ms g rest (Qc As.toArray) (free) := by
  obtain ⟨⟨hrc, hrs, hfr, hlo, hws, hcw⟩, hcode, hini, hy, hlen, hl, hstt⟩ := cw
  have hK : Back l R p e below s args y 3 8 (PreOf R mc ms Pc) (PostOf Qc mc ms free) := va_backW (hh := hh) (bytes := bytes) (maxL := maxL) (ret := ret) hM hp.1 hrc hrs hfr hlo hws hcw (fun a' U hW => word_at hW (Or.inl (by first | rfl | simp [Cond.onTables, Cond.keeps, Cond.steady])) hini)
  obtain ⟨hx, hb, hml, ho, -⟩ := S
  intro T hT X
  obtain ⟨v, vm₁, ⟨U', l2, c2, s2⟩, hW₁, X', ⟨g', mk, t, L, e1, e2, hq, h1, hL, h2, h3⟩, st⟩ := vx_callSW X hx (hh := hh) (bytes := bytes) (maxL := maxL) (ret := ret) ho hl hstt hini hcode hy hK hg (hsize.trans hml.symm) (argsL := As) (rest := rest) (fun sig h => hn.trans (hlen sig h)) hstack hW (by rw [hb]; exact hdg)
    (fun vm₁ hW₁ => ⟨hf.1, hf.2, hp.2 (T.setVm vm₁) hT hW₁⟩)
  dsimp only [Pt.U, Pt.locs, Pt.cells, Pt.slots] at X' e1 e2 h1 h2 h3 st
  subst h1; subst h2; subst h3
  exact ⟨v, (T.setVm vm₁).calling g' mk As.toArray, t, U', L, hT, X', hL, e1, e2, hq, st⟩
/-- not caught here, past rows that name other classes: it goes on to the caller -/
theorem vx_outP {p : Program} {l : Launch} {e : Env} {R : Room} {s : State} {m : MethodId} {args : Array Value} {below : List Frame} {meth : Method} {c : Code} {H : Heap} {locs : List Loc} {cells slots : Nat} {free : Addr → Prop} {ls : Array Slot} {rest : List Value} {Qc : Array Value → State → Outcome → State → Prop} {XC : String → State → State → Prop}
    {pc : Nat} {own E : String} {ce : Cell} {q : Addr} {mc ms : Nat} (hown : s.vm.findClass own = some m.cls) (hlocks : meth.locks = false)
    (hpass : ∀ z ∈ c.exceptionTable.toList, covers z pc = false ∨ (z.catchType ≠ 0 ∧ ∃ nm : String, (Cond.classLink own z.catchType nm).before args s = true ∧ va_Nc E nm s)) (hcell : H[q]? = some ce) (hv : ce.vm = .none) (hcl : s.vm.findClass E = some ce.cls)
    (hx : ∀ t : State, t.heap = H → s.vm.Alike t.vm → XC E s t) (hf : ∀ z ∈ locs, free z.base) (hc : cells ≤ mc) (hs : slots ≤ ms) :
    vx_W p l e R s m args below meth c H locs cells slots (vx_MQ below Qc XC args s mc ms free) (F0 m pc ls rest) q := by
  intro T hT X
  have hpl : e.platform.magicAccessors = ({} : Platform).magicAccessors := by rw [X.admits.platform]
  obtain ⟨vm', hW', X', st⟩ := X.outThrough hlocks q (g := F0 m pc ls rest) rfl rfl rfl (cell := ce) (by rw [hT]; exact hcell) (by rw [hv]; rfl)
    (by obtain ⟨k9, h9, -⟩ := Vm.findClass_spec hcl; exact ⟨k9, h9⟩) (fun z hz => by
      rcases hpass z hz with h | ⟨hz0, nm, hl1, hn1⟩
      · exact Or.inl h
      · obtain ⟨c6, hc6, hcl6⟩ := Cond.classLink_spec hown hl1 e.platform hpl
        obtain ⟨a8, b8, h1, h2, h3⟩ := hn1
        cases Option.some.inj (h1.symm.trans hcl)
        cases Option.some.inj (h2.symm.trans hc6)
        exact Or.inr ⟨hz0, _, hcl6, h3⟩)
  obtain ⟨g₀, hfr⟩ := X'.frames_eq
  have hcell9 : ((T.setVm vm').setFrames (.throwing q :: below)).heap[q]? = some ce := by
    show T.heap[q]? = some ce
    rw [hT]; exact hcell
  have hend : Ended ((T.setVm vm').setFrames (.throwing q :: below)) below (.threw q) := State.frames_setFrames _ (State.cur_lt_of_frames hfr)
  refine ⟨(T.setVm vm').setFrames (.throwing q :: below), ?_, .threw q, X'.here.running, hend, Or.inr ⟨q, rfl, E, ce, locs, hx _ hT (X'.ends _).1.alike, hcell9, hv, hcl, (X'.ends _).1, (X'.ends _).2.mono hc hs, hf⟩⟩
  rw [X.pushThrowing_eq]
  exact st
/-- a thing of a world lies in the heap -/
theorem vx_lt {D : va_G} {cl : List vw_C} {ws : va_W} {H1 : Heap} (h : va_P D cl ws H1) {k : Nat} {q : Nat × va_E} (hk : ws[k]? = some q) : q.1 < H1.size := (h k q hk).lt
end VXS
/-! ===== END ===== -/
/-! ===== BEGIN methods with a table of their own: called by a name, returning or throwing ===== -/
section VXH
/-! vx_backW, vx_callVX, vx_callSX, vx_callVW, vx_runVW, vx_runVX, vx_runSX, vx_ofWH follow the same proofs as their sisters above (Free/Laws.lean, Shelf42/LK1.lean); vx_outP calls Shelf42/NT130.lean (outThrough). -/
section
variable {l : Launch} {R : Room} {p : Program} {e : Env} {below : List Frame} {s : State} {sargs : Array Value} {y : MethodName} {len W9 : Nat}
theorem vx_backW {ws : List Cond} {rm : Room} {Pc : Array Value → State → Prop} {Qc : Array Value → State → Outcome → State → Prop} {XC : String → State → State → Prop} {mc ms : Nat} {free : Addr → Prop} {bytes : ByteArray} {maxL : Nat} {ret : Option FieldType} {hh : List (Nat × Nat × Nat × Nat)}
    (hM : vx_Met l y ws rm Pc Qc XC mc ms free) (hblind : FrameBlind Pc) (hrc : rm.cells = mc) (hrs : rm.slots = ms)
    (hframes : rm.frames + 1 ≤ R.frames) (hlocals : W9 + (maxL + 11) + rm.locals ≤ R.locals)
    (hws : ∀ w ∈ ws, ∀ a' U, s.WarmedH U.vm → w.before a' U = true) (hcode : Cond.codeWith y bytes maxL ret hh ∈ ws) (hinit : ∀ a' U, s.WarmedH U.vm → (Cond.initialized y.cls).before a' U = true) :
    vx_Back l R p e below s sargs y len W9 (PreOf R mc ms Pc) (PostOf Qc mc ms free) (vx_Post XC mc ms free) := by
  intro m meth c A g ig mk a X hg hsize hdg hW hn hp
  have h1 : (headSpec ws rm).pre.before a A.U = true := atoms_intro fun w hw => hws w hw _ _ X.warmed
  have h2 : (Cond.codeWith y bytes maxL ret hh).before a A.U = true := hws _ hcode _ _ X.warmed
  have h3 : (Cond.initialized y.cls).before a A.U = true := hinit _ _ X.warmed
  have h4 : A.cells + (headSpec ws rm).room.cells ≤ R.cells := by rw [show (headSpec ws rm).room.cells = mc from hrc]; exact hp.1
  have h5 : A.slots + (headSpec ws rm).room.slots ≤ R.slots := by rw [show (headSpec ws rm).room.slots = ms from hrs]; exact hp.2.1
  have hPc : Pc a (A.U.calling g mk a) := hblind _ _ _ _ hp.2.2
  obtain ⟨U, Ls, c0, s0⟩ := A
  dsimp only [Pt.U, Pt.locs, Pt.cells, Pt.slots] at h1 h2 h3 h4 h5 X hn hPc ⊢
  obtain ⟨m9, methY, cY, hn9, hmY, hcY, -, hlY, -⟩ := Cond.codeWith_spec h2
  cases Option.some.inj (hn9.symm.trans hn)
  obtain ⟨kY, hkY, -⟩ := className_of_methodNamed hn
  have hinitY : kY.init = .initialized := Cond.initialized_spec (findClass_of_methodNamed hn) hkY h3
  have h : At U g.method c below := by rw [hg]; exact X.here
  have hlocals9 : W9 + (maxL + 11) + (headSpec ws rm).room.locals ≤ R.locals := hlocals
  have happ : (headSpec ws rm).appliesLoose y e.platform (U.calling g mk a) = true :=
    Spec.appliesLoose_calling (g := g) h hdg hn hkY hinitY
      (X.room_calling (g := g) (R' := (headSpec ws rm).room) hsize hmY hcY hframes (by rw [hlY]; omega) h4 h5) h1
  obtain ⟨mid, hmid⟩ := h.above
  have hfr : (U.setTop g).frames = (.java g :: mid) ++ below := by rw [State.frames_setTop' g h.top, hmid]; rfl
  obtain ⟨o, s₂, hsteps, -, hend, hq⟩ := Steps.callFree hM p X.admits X.cas X.clock (acts := []) hfr happ hPc trivial
  have hq' : vx_Q Qc XC mc ms free a (U.calling g mk a) o s₂ := hq
  rw [State.frames_setTop' g h.top] at hend
  obtain ⟨g₀, hg0⟩ := Option.isSome_iff_exists.mp h.top
  obtain ⟨r, hr⟩ := State.topJava?_eq_some.mp hg0
  have hr' : (({ U with heap := s₂.heap, slotsUsed := s₂.slotsUsed } : State).setVm s₂.vm).frames = .java g₀ :: r := hr
  rcases hq' with ⟨hqc, L, hfe, hL⟩ | ⟨q, rfl, E, ce, L, hx, hce, hcv, hcl, hW₂, hsm, hL⟩
  · obtain ⟨⟨v, rfl⟩, hW₂, e2, q2, q3, q4, q5, q6⟩ := id hfe
    have e3 : s₂ = ({ (U.calling g mk a).setFrames s₂.frames with heap := s₂.heap, slotsUsed := s₂.slotsUsed } : State).setVm s₂.vm := by
      have : s₂ = ({ s₂ with vm := (U.calling g mk a).vm } : State).setVm s₂.vm := rfl
      rw [e2] at this
      exact this
    obtain ⟨c₂, i₂, len₂, hc₂, hd₂, hf₂⟩ := hend
    have hW' : U.WarmedH s₂.vm := hW₂
    have hcc : c₂ = c := by
      have h1 : s₂.code? g.method = U.code? g.method := by
        rw [State.code?_eq, State.code?_eq, hW'.alike.method?]
      exact Option.some.inj (hc₂.symm.trans (h1.trans h.code))
    subst hcc
    have hlen : len₂ = len := by rw [hdg] at hd₂; cases hd₂; rfl
    subst hlen
    have hs₂ : s₂ = (({ U with heap := s₂.heap, slotsUsed := s₂.slotsUsed } : State).setVm s₂.vm).setTop { g with pc := g.pc + len₂, stack := v.toList ++ g.stack } := by
      refine e3.trans ?_
      rw [hf₂, State.calling_eq h.top, State.setFrames_setFrames, State.setTop_of_frames _ hr', hr]
      rfl
    have hsame : U.sameButNew ({ U with heap := s₂.heap, slotsUsed := s₂.slotsUsed } : State) L mc ms := by
      refine ⟨?_, q2, q3, q4, q5, q6⟩
      obtain ⟨t, ht, -⟩ := State.frames_cons hr
      show ({ U with heap := s₂.heap, slotsUsed := s₂.slotsUsed } : State) = { U.setFrames U.frames with heap := s₂.heap, slotsUsed := s₂.slotsUsed }
      rw [State.setFrames_self ht]
    subst hg
    refine Or.inl ⟨v, ⟨(({ U with heap := s₂.heap, slotsUsed := s₂.slotsUsed } : State).setVm s₂.vm), Ls ++ L, c0 + mc, s0 + ms⟩,
      ⟨X.admits, X.cas, X.clock, X.frames, X.room, X.hears, X.method, X.code, (X.here.setHeapUsed s₂.heap s₂.slotsUsed).setVm hW'.alike, X.tail, State.WarmedH.trans X.warmed hW', X.limits, X.bytes, X.same.trans (hsame.setVm s.vm)⟩,
      ⟨g, mk, s₂, L, rfl, rfl, hqc, rfl, hL, rfl, rfl⟩, ?_⟩
    show Steps p.tables e below _ ((({ U with heap := s₂.heap, slotsUsed := s₂.slotsUsed } : State).setVm s₂.vm).setTop { g with pc := g.pc + len₂, stack := v.toList ++ g.stack })
    rw [← hs₂]
    exact hsteps
  · obtain ⟨e2, q2, q3, q4, q5, q6⟩ := id hsm
    have e3 : s₂ = ({ (U.calling g mk a).setFrames s₂.frames with heap := s₂.heap, slotsUsed := s₂.slotsUsed } : State).setVm s₂.vm := by
      have : s₂ = ({ s₂ with vm := (U.calling g mk a).vm } : State).setVm s₂.vm := rfl
      rw [e2] at this
      exact this
    have hf₂ : s₂.frames = .throwing q :: .java g :: U.frames.tail := hend
    have hW' : U.WarmedH s₂.vm := hW₂
    have hs₂ : s₂ = ((({ U with heap := s₂.heap, slotsUsed := s₂.slotsUsed } : State).setVm s₂.vm).setTop g).pushFrame (.throwing q) := by
      refine e3.trans ?_
      rw [hf₂, State.calling_eq h.top, State.setFrames_setFrames, State.pushFrame, State.frames_setTop _ hr', State.setTop_of_frames _ hr', State.setFrames_setFrames, hr]
      rfl
    have hsame : U.sameButNew ({ U with heap := s₂.heap, slotsUsed := s₂.slotsUsed } : State) L mc ms := by
      refine ⟨?_, q2, q3, q4, q5, q6⟩
      obtain ⟨t, ht, -⟩ := State.frames_cons hr
      show ({ U with heap := s₂.heap, slotsUsed := s₂.slotsUsed } : State) = { U.setFrames U.frames with heap := s₂.heap, slotsUsed := s₂.slotsUsed }
      rw [State.setFrames_self ht]
    subst hg
    refine Or.inr ⟨q, ⟨(({ U with heap := s₂.heap, slotsUsed := s₂.slotsUsed } : State).setVm s₂.vm), Ls ++ L, c0 + mc, s0 + ms⟩,
      ⟨X.admits, X.cas, X.clock, X.frames, X.room, X.hears, X.method, X.code, (X.here.setHeapUsed s₂.heap s₂.slotsUsed).setVm hW'.alike, X.tail, State.WarmedH.trans X.warmed hW', X.limits, X.bytes, X.same.trans (hsame.setVm s.vm)⟩,
      ⟨g, mk, s₂, L, E, ce, rfl, rfl, hx, hce, hcv, hcl, rfl, hL, rfl, rfl⟩, ?_⟩
    show Steps p.tables e below _ (((({ U with heap := s₂.heap, slotsUsed := s₂.slotsUsed } : State).setVm s₂.vm).setTop g).pushFrame (.throwing q))
    rw [← hs₂]
    exact hsteps
end
variable {p : Program} {l : Launch} {e : Env} {R : Room} {s : State} {m : MethodId} {args : Array Value} {below : List Frame} {meth : Method} {c : Code} {T : State} {H : Heap} {locs : List Loc} {cells slots : Nat}
theorem vx_callVX (X : Stand p l e R s m args below meth c T locs cells slots) (hexec : p.tables.exec = Jvm.exec) {own C : String} {index : Nat} {y : MethodName} {bytes : ByteArray} {maxL : Nat} {ret : Option FieldType} {hh : List (Nat × Nat × Nat × Nat)}
    (hown : s.vm.findClass own = some m.cls) (hlink : (Cond.methodLink own index y).before args s = true) (hinst : (Cond.instanceMethod y).before args s = true) (hsel : (Cond.selects C y y).before args s = true)
    (hcode : (Cond.codeWith y bytes maxL ret hh).before args s = true) (hy : y.cls ≠ "java/lang/invoke/MethodHandle" ∧ y.cls ≠ "java/lang/invoke/VarHandle")
    {W9 : Nat} {Pre : Pt → Array Value → Prop} {Post : Pt → Array Value → Option Value → Pt → Prop} {PostX : Pt → Array Value → Addr → Pt → Prop} (hK : vx_Back l R p e below s args y 3 W9 Pre Post PostX)
    {b : Addr} {cellB : Cell} (hcell : T.heap[b]? = some cellB) (hobj : cellB.vm.isStatics = false) (hcls : s.vm.findClass C = some cellB.cls)
    {g : JFrame} (hg : g.method = m) (hsize : g.locals.size = c.maxLocals) {argsL rest : List Value} (hlen : ∀ sig, parseMethodDescriptor y.desc = some sig → argsL.length = sig.parameters.length)
    (hstack : g.stack = argsL.reverse ++ .ref b :: rest) (hW : 2 * g.monitorRoom + (rest.map fun v => v.category).sum ≤ W9) (hdg : decode c.code g.pc = .ok (.invokevirtual index, 3))
    (hpre : ∀ vm₁, s.WarmedH vm₁ → Pre ⟨T.setVm vm₁, locs, cells, slots⟩ (Value.ref b :: argsL).toArray) :
    (∃ (v : Option Value) (vm₁ : Vm) (B : Pt), s.WarmedH vm₁ ∧ Stand p l e R s m args below meth c B.U B.locs B.cells B.slots ∧ Post ⟨T.setVm vm₁, locs, cells, slots⟩ (Value.ref b :: argsL).toArray v B ∧
      ∀ target, Steps p.tables e below (B.U.setTop { g with pc := g.pc + 3, stack := v.toList ++ rest }) target → Steps p.tables e below (T.setTop g) target) ∨
    (∃ (q : Addr) (vm₁ : Vm) (B : Pt), s.WarmedH vm₁ ∧ Stand p l e R s m args below meth c B.U B.locs B.cells B.slots ∧ PostX ⟨T.setVm vm₁, locs, cells, slots⟩ (Value.ref b :: argsL).toArray q B ∧
      Steps p.tables e below (T.setTop g) ((B.U.setTop { g with stack := rest }).pushFrame (.throwing q))) := by
  obtain ⟨mk, methM, hnamed, hmethM, hstM, habM⟩ := Cond.instanceMethod_spec hinst
  obtain ⟨m8, methM', cM, hn8, hmethM', -, -, -, -, -, -, hsigM⟩ := Cond.codeWith_spec hcode
  cases Option.some.inj (hn8.symm.trans hnamed)
  cases hmethM.symm.trans hmethM'
  obtain ⟨c2, r2, m2, q1, q2, q3, q4, kP, hkP, hkPi⟩ := Cond.selects_spec hsel
  cases hcls.symm.trans q1
  cases (State.methodFound?_of_named hnamed hy).symm.trans q2
  cases hnamed.symm.trans q3
  have hselP : selectMethod e.platform s.vm cellB.cls mk = .method mk := by rw [Launch.admits_selectMethod X.admits]; exact q4
  obtain ⟨vm₁, X₁, hstep₁⟩ := X.invokevirtual hexec hown hlink hnamed hmethM hstM hkP hkPi hy (a := b) (cell := cellB) hcell
    (fun z h => by rw [h] at hobj; cases hobj) hselP hmethM habM hkP hkPi (g := g) hg (argsL := argsL) (rest := rest) (hlen _ hsigM) hstack hdg
  rcases hK m meth c ⟨T.setVm vm₁, locs, cells, slots⟩ { g with stack := rest } (.invokevirtual index) mk (Value.ref b :: argsL).toArray X₁ hg hsize hdg hW (X₁.named hnamed) (hpre vm₁ X₁.warmed) with ⟨v, B, X', hpost, hsteps⟩ | ⟨q, B, X', hpost, hsteps⟩
  · exact Or.inl ⟨v, vm₁, B, X₁.warmed, X', hpost, fun target h => hstep₁ _ fun acts => by rw [doInvoke_state]; exact hsteps.trans h⟩
  · exact Or.inr ⟨q, vm₁, B, X₁.warmed, X', hpost, hstep₁ _ fun acts => by rw [doInvoke_state]; exact hsteps⟩
theorem vx_callSX (X : Stand p l e R s m args below meth c T locs cells slots) (hexec : p.tables.exec = Jvm.exec) {own : String} {index : Nat} {y : MethodName} {bytes : ByteArray} {maxL : Nat} {ret : Option FieldType} {hh : List (Nat × Nat × Nat × Nat)}
    (hown : s.vm.findClass own = some m.cls) (hlink : (Cond.methodLink own index y).before args s = true) (hstat : (Cond.static y).before args s = true) (hinit : (Cond.initialized y.cls).before args s = true)
    (hcode : (Cond.codeWith y bytes maxL ret hh).before args s = true) (hy : y.cls ≠ "java/lang/invoke/MethodHandle" ∧ y.cls ≠ "java/lang/invoke/VarHandle")
    {W9 : Nat} {Pre : Pt → Array Value → Prop} {Post : Pt → Array Value → Option Value → Pt → Prop} {PostX : Pt → Array Value → Addr → Pt → Prop} (hK : vx_Back l R p e below s args y 3 W9 Pre Post PostX)
    {g : JFrame} (hg : g.method = m) (hsize : g.locals.size = c.maxLocals) {argsL rest : List Value} (hlen : ∀ sig, parseMethodDescriptor y.desc = some sig → argsL.length = sig.parameters.length)
    (hstack : g.stack = argsL.reverse ++ rest) (hW : 2 * g.monitorRoom + (rest.map fun v => v.category).sum ≤ W9) (hdg : decode c.code g.pc = .ok (.invokestatic index, 3))
    (hpre : ∀ vm₁, s.WarmedH vm₁ → Pre ⟨T.setVm vm₁, locs, cells, slots⟩ argsL.toArray) :
    (∃ (v : Option Value) (vm₁ : Vm) (B : Pt), s.WarmedH vm₁ ∧ Stand p l e R s m args below meth c B.U B.locs B.cells B.slots ∧ Post ⟨T.setVm vm₁, locs, cells, slots⟩ argsL.toArray v B ∧
      ∀ target, Steps p.tables e below (B.U.setTop { g with pc := g.pc + 3, stack := v.toList ++ rest }) target → Steps p.tables e below (T.setTop g) target) ∨
    (∃ (q : Addr) (vm₁ : Vm) (B : Pt), s.WarmedH vm₁ ∧ Stand p l e R s m args below meth c B.U B.locs B.cells B.slots ∧ PostX ⟨T.setVm vm₁, locs, cells, slots⟩ argsL.toArray q B ∧
      Steps p.tables e below (T.setTop g) ((B.U.setTop { g with stack := rest }).pushFrame (.throwing q))) := by
  obtain ⟨mk, methM, cM, hnamed, hmethM, -, -, -, -, -, -, hsigM⟩ := Cond.codeWith_spec hcode
  have hstatic : methM.isStatic = true := Cond.static_spec hnamed hmethM hstat
  obtain ⟨kP, hkP, -⟩ := className_of_methodNamed hnamed
  have hinitP : kP.init = .initialized := Cond.initialized_spec (findClass_of_methodNamed hnamed) hkP hinit
  obtain ⟨vm₁, X₁, hstep₁⟩ := X.invokestatic hexec hown hlink hnamed hmethM hstatic hkP hinitP hy (g := g) hg (argsL := argsL) (rest := rest) (hlen _ hsigM) hstack hdg
  rcases hK m meth c ⟨T.setVm vm₁, locs, cells, slots⟩ { g with stack := rest } (.invokestatic index) mk argsL.toArray X₁ hg hsize hdg hW (X₁.named hnamed) (hpre vm₁ X₁.warmed) with ⟨v, B, X', hpost, hsteps⟩ | ⟨q, B, X', hpost, hsteps⟩
  · exact Or.inl ⟨v, vm₁, B, X₁.warmed, X', hpost, fun target h => hstep₁ _ fun acts => by rw [doInvoke_state]; exact hsteps.trans h⟩
  · exact Or.inr ⟨q, vm₁, B, X₁.warmed, X', hpost, hstep₁ _ fun acts => by rw [doInvoke_state]; exact hsteps⟩
theorem vx_callVW (X : Stand p l e R s m args below meth c T locs cells slots) (hexec : p.tables.exec = Jvm.exec) {own C : String} {index : Nat} {y : MethodName} {bytes : ByteArray} {maxL : Nat} {ret : Option FieldType} {hh : List (Nat × Nat × Nat × Nat)}
    (hown : s.vm.findClass own = some m.cls) (hlink : (Cond.methodLink own index y).before args s = true) (hinst : (Cond.instanceMethod y).before args s = true) (hsel : (Cond.selects C y y).before args s = true)
    (hcode : (Cond.codeWith y bytes maxL ret hh).before args s = true) (hy : y.cls ≠ "java/lang/invoke/MethodHandle" ∧ y.cls ≠ "java/lang/invoke/VarHandle")
    {W9 : Nat} {Pre : Pt → Array Value → Prop} {Post : Pt → Array Value → Option Value → Pt → Prop} (hK : Back l R p e below s args y 3 W9 Pre Post)
    {b : Addr} {cellB : Cell} (hcell : T.heap[b]? = some cellB) (hobj : cellB.vm.isStatics = false) (hcls : s.vm.findClass C = some cellB.cls)
    {g : JFrame} (hg : g.method = m) (hsize : g.locals.size = c.maxLocals) {argsL rest : List Value} (hlen : ∀ sig, parseMethodDescriptor y.desc = some sig → argsL.length = sig.parameters.length)
    (hstack : g.stack = argsL.reverse ++ .ref b :: rest) (hW : 2 * g.monitorRoom + (rest.map fun v => v.category).sum ≤ W9) (hdg : decode c.code g.pc = .ok (.invokevirtual index, 3))
    (hpre : ∀ vm₁, s.WarmedH vm₁ → Pre ⟨T.setVm vm₁, locs, cells, slots⟩ (Value.ref b :: argsL).toArray) :
    ∃ (v : Option Value) (vm₁ : Vm) (B : Pt), s.WarmedH vm₁ ∧ Stand p l e R s m args below meth c B.U B.locs B.cells B.slots ∧ Post ⟨T.setVm vm₁, locs, cells, slots⟩ (Value.ref b :: argsL).toArray v B ∧
      ∀ target, Steps p.tables e below (B.U.setTop { g with pc := g.pc + 3, stack := v.toList ++ rest }) target → Steps p.tables e below (T.setTop g) target := by
  obtain ⟨mk, methM, hnamed, hmethM, hstM, habM⟩ := Cond.instanceMethod_spec hinst
  obtain ⟨m8, methM', cM, hn8, hmethM', -, -, -, -, -, -, hsigM⟩ := Cond.codeWith_spec hcode
  cases Option.some.inj (hn8.symm.trans hnamed)
  cases hmethM.symm.trans hmethM'
  obtain ⟨c2, r2, m2, q1, q2, q3, q4, kP, hkP, hkPi⟩ := Cond.selects_spec hsel
  cases hcls.symm.trans q1
  cases (State.methodFound?_of_named hnamed hy).symm.trans q2
  cases hnamed.symm.trans q3
  have hselP : selectMethod e.platform s.vm cellB.cls mk = .method mk := by rw [Launch.admits_selectMethod X.admits]; exact q4
  obtain ⟨vm₁, X₁, hstep₁⟩ := X.invokevirtual hexec hown hlink hnamed hmethM hstM hkP hkPi hy (a := b) (cell := cellB) hcell
    (fun z h => by rw [h] at hobj; cases hobj) hselP hmethM habM hkP hkPi (g := g) hg (argsL := argsL) (rest := rest) (hlen _ hsigM) hstack hdg
  obtain ⟨v, B, X', hpost, hsteps⟩ := hK m meth c ⟨T.setVm vm₁, locs, cells, slots⟩ { g with stack := rest } (.invokevirtual index) mk (Value.ref b :: argsL).toArray X₁ hg hsize hdg hW (X₁.named hnamed) (hpre vm₁ X₁.warmed)
  exact ⟨v, vm₁, B, X₁.warmed, X', hpost, fun target h => hstep₁ _ fun acts => by rw [doInvoke_state]; exact hsteps.trans h⟩
abbrev vx_CVW (R : Room) (s : State) (args : Array Value) (own C : String) (index : Nat) (y : MethodName) (bytes : ByteArray) (maxL : Nat) (ret : Option FieldType) (hh : List (Nat × Nat × Nat × Nat)) (ws : List Cond) (rm : Room) (mc ms n : Nat) : Prop :=
  (rm.cells = mc ∧ rm.slots = ms ∧ rm.frames + 1 ≤ R.frames ∧ 8 + (maxL + 11) + rm.locals ≤ R.locals ∧ (∀ w ∈ ws, ∀ (a' : Array Value) (U : State), s.WarmedH U.vm → w.before a' U = true) ∧ Cond.codeWith y bytes maxL ret hh ∈ ws) ∧
  (Cond.codeWith y bytes maxL ret hh).before args s = true ∧ (Cond.initialized y.cls).before args s = true ∧ (y.cls ≠ "java/lang/invoke/MethodHandle" ∧ y.cls ≠ "java/lang/invoke/VarHandle") ∧
  (∀ sig, parseMethodDescriptor y.desc = some sig → n = sig.parameters.length) ∧ (Cond.methodLink own index y).before args s = true ∧ (Cond.instanceMethod y).before args s = true ∧ (Cond.selects C y y).before args s = true
theorem vx_cwVW {own C : String} {index maxL mc ms : Nat} {y : MethodName} {bytes : ByteArray} {ret : Option FieldType} {hh : List (Nat × Nat × Nat × Nat)} {Ts ws ws' : List Cond} {rm : Room} (n : Nat) (ht : ∀ w ∈ Ts, w.before args s = true) (hT : GoodIn Ts (wsV own index C y ws)) (hw : ws = Cond.codeWith y bytes maxL ret hh :: ws') (hrc : rm.cells = mc) (hrs : rm.slots = ms)
    (hd : y.cls = C ∧ y.cls ≠ "java/lang/invoke/MethodHandle" ∧ y.cls ≠ "java/lang/invoke/VarHandle" ∧ (parseMethodDescriptor y.desc).map (fun d => d.parameters.length) = some n) (hR : rm.frames + 1 ≤ R.frames ∧ 8 + (maxL + 11) + rm.locals ≤ R.locals) :
    vx_CVW R s args own C index y bytes maxL ret hh ws rm mc ms n := by
  obtain ⟨hC, hd⟩ := hd
  subst hC
  have ok : ∀ w ∈ wsV own index y.cls y ws, w.before args s = true := fun w h => ht w (hT w h).1
  have hG : GoodIn Ts ws := fun w h => hT w (by unfold wsV; exact List.mem_append_right _ h)
  have hc : Cond.codeWith y bytes maxL ret hh ∈ ws := by rw [hw]; exact List.mem_cons_self
  refine ⟨⟨hrc, hrs, hR.1, hR.2, pay_in ht hG, hc⟩, ht _ (hG _ hc).1, ok _ (by simp [wsV]), ⟨hd.1, hd.2.1⟩, fun sig h => ?_, ok _ (by simp [wsV]), ok _ (by simp [wsV]), ok _ (by simp [wsV])⟩
  have h2 := hd.2.2
  rw [h] at h2
  exact (Option.some.inj h2).symm
theorem vx_runVW {y : MethodName} {bytes cc : ByteArray} {maxL nL mc ms n index : Nat} {ret : Option FieldType} {hh : List (Nat × Nat × Nat × Nat)} {ws : List Cond} {rm : Room} {Pc : Array Value → State → Prop} {Qc : Array Value → State → Outcome → State → Prop} {free : Addr → Prop} {Ts : List Cond} {own C : String} {b : Addr} {As rest : List Value} {g : JFrame}
    (S : CallFix p m c cc nL s args Ts own) (hM : Met l y ws rm Pc Qc mc ms free) (cw : vx_CVW R s args own C index y bytes maxL ret hh ws rm mc ms n) (hp : PreV s H C b Pc As)
    (hg : g.method = m) (hn : As.length = n) (hsize : g.locals.size = nL) (hstack : g.stack = As.reverse ++ .ref b :: rest) (hW : 2 * g.monitorRoom + (rest.map fun v => v.category).sum ≤ 8) (hdg : decode cc g.pc = .ok (.invokevirtual index, 3)) (hf : cells + mc ≤ R.cells ∧ slots + ms ≤ R.slots) :
    va_Run p l e R s m args below meth c H locs cells slots mc ms g rest (Qc (Value.ref b :: As).toArray) free := by
  obtain ⟨⟨hrc, hrs, hfr, hlo, hws, hcw⟩, hcode, hini, hy, hlen, hl, hin, hse⟩ := cw
  have hK : Back l R p e below s args y 3 8 (PreOf R mc ms Pc) (PostOf Qc mc ms free) := va_backW (hh := hh) (bytes := bytes) (maxL := maxL) (ret := ret) hM hp.1 hrc hrs hfr hlo hws hcw (fun a' U hW => word_at hW (Or.inl (by first | rfl | simp [Cond.onTables, Cond.keeps, Cond.steady])) hini)
  obtain ⟨hx, hb, hml, ho, -⟩ := S
  obtain ⟨-, ⟨cellB, hcB, hoB, hclB⟩, hPc⟩ := hp
  intro T hT X
  obtain ⟨v, vm₁, ⟨U', l2, c2, s2⟩, hW₁, X', ⟨g', mk, t, L, e1, e2, hq, h1, hL, h2, h3⟩, st⟩ := vx_callVW X hx (C := C) (hh := hh) (bytes := bytes) (maxL := maxL) (ret := ret) ho hl hin hse hcode hy hK (by rw [hT]; exact hcB) hoB hclB hg (hsize.trans hml.symm) (argsL := As) (rest := rest) (fun sig h => hn.trans (hlen sig h)) hstack hW (by rw [hb]; exact hdg)
    (fun vm₁ hW₁ => ⟨hf.1, hf.2, hPc (T.setVm vm₁) hT hW₁⟩)
  dsimp only [Pt.U, Pt.locs, Pt.cells, Pt.slots] at X' e1 e2 h1 h2 h3 st
  subst h1; subst h2; subst h3
  exact ⟨v, (T.setVm vm₁).calling g' mk (Value.ref b :: As).toArray, t, U', L, hT, X', hL, e1, e2, hq, st⟩
section
variable {y : MethodName} {bytes cc : ByteArray} {maxL nL mc ms n index : Nat} {ret : Option FieldType} {ws : List Cond} {rm : Room} {Pc : Array Value → State → Prop} {Qc : Array Value → State → Outcome → State → Prop} {XC : String → State → State → Prop} {free : Addr → Prop} {Ts : List Cond} {own C : String} {b : Addr} {As rest : List Value} {g : JFrame}
theorem vx_runVX {hh : List (Nat × Nat × Nat × Nat)} (S : CallFix p m c cc nL s args Ts own) (hM : vx_Met l y ws rm Pc Qc XC mc ms free) (cw : vx_CVW R s args own C index y bytes maxL ret hh ws rm mc ms n) (hp : PreV s H C b Pc As)
    (hg : g.method = m) (hn : As.length = n) (hsize : g.locals.size = nL) (hstack : g.stack = As.reverse ++ .ref b :: rest) (hW : 2 * g.monitorRoom + (rest.map fun v => v.category).sum ≤ 8) (hdg : decode cc g.pc = .ok (.invokevirtual index, 3)) (hf : cells + mc ≤ R.cells ∧ slots + ms ≤ R.slots) :
    vx_Run p l e R s m args below meth c H locs cells slots mc ms g rest (Qc (Value.ref b :: As).toArray) XC free := by
  obtain ⟨⟨hrc, hrs, hfr, hlo, hws, hcw⟩, hcode, hini, hy, hlen, hl, hin, hse⟩ := cw
  have hK : vx_Back l R p e below s args y 3 8 (PreOf R mc ms Pc) (PostOf Qc mc ms free) (vx_Post XC mc ms free) := vx_backW (hh := hh) (bytes := bytes) (maxL := maxL) (ret := ret) hM hp.1 hrc hrs hfr hlo hws hcw (fun a' U hW => word_at hW (Or.inl (by first | rfl | simp [Cond.onTables, Cond.keeps, Cond.steady])) hini)
  obtain ⟨hx, hb, hml, ho, -⟩ := S
  obtain ⟨-, ⟨cellB, hcB, hoB, hclB⟩, hPc⟩ := hp
  intro T hT X
  rcases vx_callVX X hx (C := C) (hh := hh) (bytes := bytes) (maxL := maxL) (ret := ret) ho hl hin hse hcode hy hK (by rw [hT]; exact hcB) hoB hclB hg (hsize.trans hml.symm) (argsL := As) (rest := rest) (fun sig h => hn.trans (hlen sig h)) hstack hW (by rw [hb]; exact hdg)
    (fun vm₁ hW₁ => ⟨hf.1, hf.2, hPc (T.setVm vm₁) hT hW₁⟩) with ⟨v, vm₁, ⟨U', l2, c2, s2⟩, hW₁, X', ⟨g', mk, t, L, e1, e2, hq, h1, hL, h2, h3⟩, st⟩ | ⟨q, vm₁, ⟨U', l2, c2, s2⟩, hW₁, X', ⟨g', mk, t, L, E, ce, e1, e2, hq, hce, hcv, hcl, h1, hL, h2, h3⟩, st⟩
  · dsimp only [Pt.U, Pt.locs, Pt.cells, Pt.slots] at X' e1 e2 h1 h2 h3 st
    subst h1; subst h2; subst h3
    exact Or.inl ⟨v, (T.setVm vm₁).calling g' mk (Value.ref b :: As).toArray, t, U', L, hT, X', hL, e1, e2, hq, st⟩
  · dsimp only [Pt.U, Pt.locs, Pt.cells, Pt.slots] at X' e1 e2 h1 h2 h3 st hcl
    subst h1; subst h2; subst h3
    exact Or.inr ⟨q, (T.setVm vm₁).calling g' mk (Value.ref b :: As).toArray, t, U', L, E, ce, hT, X', hL, e1, e2, hq, hce, hcv, vx_cls hW₁ hcl, st⟩
theorem vx_runSX {hh : List (Nat × Nat × Nat × Nat)} (S : CallFix p m c cc nL s args Ts own) (hM : vx_Met l y ws rm Pc Qc XC mc ms free) (cw : vx_CSW R s args own index y bytes maxL ret hh ws rm mc ms n) (hp : PreS s H Pc As)
    (hg : g.method = m) (hn : As.length = n) (hsize : g.locals.size = nL) (hstack : g.stack = As.reverse ++ rest) (hW : 2 * g.monitorRoom + (rest.map fun v => v.category).sum ≤ 8) (hdg : decode cc g.pc = .ok (.invokestatic index, 3)) (hf : cells + mc ≤ R.cells ∧ slots + ms ≤ R.slots) :
    vx_Run p l e R s m args below meth c H locs cells slots mc ms g rest (Qc As.toArray) XC free := by
  obtain ⟨⟨hrc, hrs, hfr, hlo, hws, hcw⟩, hcode, hini, hy, hlen, hl, hstt⟩ := cw
  have hK : vx_Back l R p e below s args y 3 8 (PreOf R mc ms Pc) (PostOf Qc mc ms free) (vx_Post XC mc ms free) := vx_backW (hh := hh) (bytes := bytes) (maxL := maxL) (ret := ret) hM hp.1 hrc hrs hfr hlo hws hcw (fun a' U hW => word_at hW (Or.inl (by first | rfl | simp [Cond.onTables, Cond.keeps, Cond.steady])) hini)
  obtain ⟨hx, hb, hml, ho, -⟩ := S
  intro T hT X
  rcases vx_callSX X hx (hh := hh) (bytes := bytes) (maxL := maxL) (ret := ret) ho hl hstt hini hcode hy hK hg (hsize.trans hml.symm) (argsL := As) (rest := rest) (fun sig h => hn.trans (hlen sig h)) hstack hW (by rw [hb]; exact hdg)
    (fun vm₁ hW₁ => ⟨hf.1, hf.2, hp.2 (T.setVm vm₁) hT hW₁⟩) with ⟨v, vm₁, ⟨U', l2, c2, s2⟩, hW₁, X', ⟨g', mk, t, L, e1, e2, hq, h1, hL, h2, h3⟩, st⟩ | ⟨q, vm₁, ⟨U', l2, c2, s2⟩, hW₁, X', ⟨g', mk, t, L, E, ce, e1, e2, hq, hce, hcv, hcl, h1, hL, h2, h3⟩, st⟩
  · dsimp only [Pt.U, Pt.locs, Pt.cells, Pt.slots] at X' e1 e2 h1 h2 h3 st
    subst h1; subst h2; subst h3
    exact Or.inl ⟨v, (T.setVm vm₁).calling g' mk As.toArray, t, U', L, hT, X', hL, e1, e2, hq, st⟩
  · dsimp only [Pt.U, Pt.locs, Pt.cells, Pt.slots] at X' e1 e2 h1 h2 h3 st hcl
    subst h1; subst h2; subst h3
    exact Or.inr ⟨q, (T.setVm vm₁).calling g' mk As.toArray, t, U', L, E, ce, hT, X', hL, e1, e2, hq, hce, hcv, vx_cls hW₁ hcl, st⟩
end
end VXH
theorem vx_ofWH {l : Launch} {y : MethodName} {ws ws' : List Cond} {rm : Room} {Pc : Array Value → State → Prop} {Qc : Array Value → State → Outcome → State → Prop} {XC : String → State → State → Prop} {mc ms : Nat} {free : Addr → Prop} {cc : ByteArray} {maxL : Nat} {ret : Option FieldType} {hh : List (Nat × Nat × Nat × Nat)}
    (hy : plainName y.cls = true) (hw : ws = Cond.codeWith y cc maxL ret hh :: ws')
    (body : ∀ p e s m args below meth c s₁, BodyLoose p l y (headSpec ws rm) cc maxL ret e s m args below meth c s₁ → c.maxLocals = maxL → Pc args s →
      W p l e (headSpec ws rm).room s m args below meth c s.heap [] 0 0 (vx_MQ below Qc XC args s mc ms free) (entryFrame m args maxL)) : vx_Met l y ws rm Pc Qc XC mc ms free := by
  refine MetFree.of_bodyS (code := cc) (maxLocals := maxL) (ret := ret) hy ?_ ?_
  · intro args s m h hn
    obtain ⟨m9, meth, c, hn9, h1, h2, h3, h4, -, h5, h6, -⟩ := Cond.codeWith_spec (atoms_spec (ws := ws) h _ (by rw [hw]; exact List.mem_cons_self))
    cases hn.symm.trans hn9
    exact ⟨meth, c, h1, h2, h3, h4, h5, h6⟩
  · intro p e s m args below meth c s₁ B hml hP _
    have hh0 : s₁.heap = s.heap := by rw [B.state]; rfl
    obtain ⟨t, a1, o, b1, b2, b3⟩ := body p e s m args below meth c s₁ B hml hP s₁ hh0 (Stand.of_body B)
    exact ⟨t, o, a1, b1, b2, b3⟩
/-! ===== END ===== -/
end
section
/-! THE ABSTRACT MACHINE: cells by number, a heap as a function, a step of each instruction as a transformer of predicates -/
abbrev zL : Type := List (Option Value)
abbrev zC : Type := (Nat × vp_A) ⊕ (Nat × List Value)
abbrev zH : Type := Nat → zC
abbrev zQ : Type := Nat → Option Value → zH → Nat → Prop
abbrev zP : Type := Nat → zL → List Value → zH → Nat → Nat → Nat → Prop
abbrev zK : Type := Nat → List Value → zH → Nat → zQ → Prop
abbrev zT : Type := zK → zQ → zP → zL → List Value → zH → Nat → Nat → Nat → Prop
def zget : zL → Nat → Option Value
  | [], _ => none
  | a :: _, 0 => a
  | _ :: l, i + 1 => zget l i
def zset : zL → Nat → Value → zL
  | [], _, _ => []
  | _ :: l, 0, v => some v :: l
  | a :: l, i + 1, v => a :: zset l i v
def zclr : zL → Nat → zL
  | [], _ => []
  | _ :: l, 0 => none :: l
  | a :: l, i + 1 => a :: zclr l i
def zclrs (l : zL) : List Nat → zL
  | [] => l
  | i :: is => zclrs (zclr l i) is
/-- no value of two words lies just ahead of the place i -/
def zok (l : zL) : Nat → Bool
  | 0 => true
  | i + 1 => match zget l i with
    | some (.long _) => false
    | some (.double _) => false
    | _ => true
def zupd (h : zH) (a : Nat) (c : zC) : zH := fun b => if b = a then c else h b
/-- how many cells and slots a method may make: cells by its number -/
def zpop : Nat → List Value → List Value → Option (List Value × List Value)
  | 0, acc, st => some (acc, st)
  | _ + 1, _, [] => none
  | k + 1, acc, v :: st => zpop k (v :: acc) st
/-- the words of a stack fit into k -/
def zsm : List Value → Nat → Bool
  | [], _ => true
  | v :: s, k => match v with
    | .long _ => (match k with
      | k' + 2 => zsm s k'
      | _ => false)
    | .double _ => (match k with
      | k' + 2 => zsm s k'
      | _ => false)
    | _ => (match k with
      | k' + 1 => zsm s k'
      | 0 => false)
-- loads, stores
def zt_iload (i nx : Nat) : zT := fun _ _ P ls st h n cu su => match zget ls i with
  | some (.int x) => P nx ls (.int x :: st) h n cu su
  | _ => False
def zt_aload (i nx : Nat) : zT := fun _ _ P ls st h n cu su => match zget ls i with
  | some (.ref x) => P nx ls (.ref x :: st) h n cu su
  | _ => False
def zt_lload (i nx : Nat) : zT := fun _ _ P ls st h n cu su => match zget ls i with
  | some (.long x) => P nx ls (.long x :: st) h n cu su
  | _ => False
def zt_dload (i nx : Nat) : zT := fun _ _ P ls st h n cu su => match zget ls i with
  | some (.double x) => P nx ls (.double x :: st) h n cu su
  | _ => False
def zt_istore (i nx : Nat) : zT := fun _ _ P ls st h n cu su => match st with
  | .int x :: s => match zok ls i with
    | true => P nx (zset ls i (.int x)) s h n cu su
    | false => False
  | _ => False
def zt_astore (i nx : Nat) : zT := fun _ _ P ls st h n cu su => match st with
  | .ref x :: s => match zok ls i with
    | true => P nx (zset ls i (.ref x)) s h n cu su
    | false => False
  | _ => False
def zt_lstore (i nx : Nat) : zT := fun _ _ P ls st h n cu su => match st with
  | .long x :: s => match zok ls i with
    | true => P nx (zclr (zset ls i (.long x)) (i + 1)) s h n cu su
    | false => False
  | _ => False
def zt_dstore (i nx : Nat) : zT := fun _ _ P ls st h n cu su => match st with
  | .double x :: s => match zok ls i with
    | true => P nx (zclr (zset ls i (.double x)) (i + 1)) s h n cu su
    | false => False
  | _ => False
def zt_iinc (i : Nat) (k : Int) (nx : Nat) : zT := fun _ _ P ls st h n cu su => match zget ls i with
  | some (.int x) => match zok ls i with
    | true => P nx (zset ls i (.int (x + Int32.ofInt k))) st h n cu su
    | false => False
  | _ => False
-- constants
def zt_iconst (v : Int32) (nx : Nat) : zT := fun _ _ P ls st h n cu su => P nx ls (.int v :: st) h n cu su
def zt_lconst (v : Int64) (nx : Nat) : zT := fun _ _ P ls st h n cu su => P nx ls (.long v :: st) h n cu su
def zt_dconst (v : UInt64) (nx : Nat) : zT := fun _ _ P ls st h n cu su => P nx ls (.double v :: st) h n cu su
def zt_null (nx : Nat) : zT := fun _ _ P ls st h n cu su => P nx ls (.null :: st) h n cu su
-- arithmetic
def zt_iadd (nx : Nat) : zT := fun _ _ P ls st h n cu su => match st with
  | .int b :: .int a :: s => P nx ls (.int (a + b) :: s) h n cu su
  | _ => False
def zt_isub (nx : Nat) : zT := fun _ _ P ls st h n cu su => match st with
  | .int b :: .int a :: s => P nx ls (.int (a - b) :: s) h n cu su
  | _ => False
def zt_imul (nx : Nat) : zT := fun _ _ P ls st h n cu su => match st with
  | .int b :: .int a :: s => P nx ls (.int (a * b) :: s) h n cu su
  | _ => False
def zt_iand (nx : Nat) : zT := fun _ _ P ls st h n cu su => match st with
  | .int b :: .int a :: s => P nx ls (.int (a &&& b) :: s) h n cu su
  | _ => False
def zt_ladd (nx : Nat) : zT := fun _ _ P ls st h n cu su => match st with
  | .long b :: .long a :: s => P nx ls (.long (a + b) :: s) h n cu su
  | _ => False
def zt_lmul (nx : Nat) : zT := fun _ _ P ls st h n cu su => match st with
  | .long b :: .long a :: s => P nx ls (.long (a * b) :: s) h n cu su
  | _ => False
def zt_i2l (nx : Nat) : zT := fun _ _ P ls st h n cu su => match st with
  | .int a :: s => P nx ls (.long a.toInt64 :: s) h n cu su
  | _ => False
def zt_i2d (nx : Nat) : zT := fun _ _ P ls st h n cu su => match st with
  | .int a :: s => P nx ls (.double (FP.i2d a) :: s) h n cu su
  | _ => False
def zt_ddiv (nx : Nat) : zT := fun _ _ P ls st h n cu su => match st with
  | .double b :: .double a :: s => vf_n64 (FP.ddiv a b) ∧ P nx ls (.double (FP.ddiv a b) :: s) h n cu su
  | _ => False
def zt_dcmp (op : CmpOp) (nx : Nat) : zT := fun _ _ P ls st h n cu su => match st with
  | .double b :: .double a :: s => P nx ls (.int (Op.cmpValue (FP.dcmp a b) op) :: s) h n cu su
  | _ => False
/-- lcmp and the test behind it that asks for equality, in one -/
def zt_leq (eq ne : Nat) : zT := fun _ _ P ls st h n cu su => match st with
  | .long b :: .long a :: s => (a = b → P eq ls s h n cu su) ∧ (¬ a = b → P ne ls s h n cu su)
  | _ => False
def zt_pop (nx : Nat) : zT := fun _ _ P ls st h n cu su => match st with
  | .int _ :: s => P nx ls s h n cu su
  | .ref _ :: s => P nx ls s h n cu su
  | _ => False
def zt_dup (nx : Nat) : zT := fun _ _ P ls st h n cu su => match st with
  | .int a :: s => P nx ls (.int a :: .int a :: s) h n cu su
  | .ref a :: s => P nx ls (.ref a :: .ref a :: s) h n cu su
  | _ => False
def zt_dup2 (nx : Nat) : zT := fun _ _ P ls st h n cu su => match st with
  | .int b :: .ref a :: s => P nx ls (.int b :: .ref a :: .int b :: .ref a :: s) h n cu su
  | _ => False
-- branches; cl: what is forgotten of the locals where it goes
def zt_goto (tgt : Nat) (cl : List Nat) : zT := fun _ _ P ls st h n cu su => P tgt (zclrs ls cl) st h n cu su
def zt_ifeq (tgt nx : Nat) : zT := fun _ _ P ls st h n cu su => match st with
  | .int a :: s => (a = 0 → P tgt ls s h n cu su) ∧ (¬ a = 0 → P nx ls s h n cu su)
  | _ => False
def zt_ifne (tgt nx : Nat) : zT := fun _ _ P ls st h n cu su => match st with
  | .int a :: s => (¬ a = 0 → P tgt ls s h n cu su) ∧ (a = 0 → P nx ls s h n cu su)
  | _ => False
def zt_iflt (tgt nx : Nat) : zT := fun _ _ P ls st h n cu su => match st with
  | .int a :: s => (a < 0 → P tgt ls s h n cu su) ∧ (¬ a < 0 → P nx ls s h n cu su)
  | _ => False
def zt_ifle (tgt nx : Nat) : zT := fun _ _ P ls st h n cu su => match st with
  | .int a :: s => (a ≤ 0 → P tgt ls s h n cu su) ∧ (¬ a ≤ 0 → P nx ls s h n cu su)
  | _ => False
def zt_ifgt (tgt nx : Nat) : zT := fun _ _ P ls st h n cu su => match st with
  | .int a :: s => (0 < a → P tgt ls s h n cu su) ∧ (¬ 0 < a → P nx ls s h n cu su)
  | _ => False
def zt_ifge (tgt nx : Nat) : zT := fun _ _ P ls st h n cu su => match st with
  | .int a :: s => (0 ≤ a → P tgt ls s h n cu su) ∧ (¬ 0 ≤ a → P nx ls s h n cu su)
  | _ => False
def zt_icmpeq (tgt nx : Nat) : zT := fun _ _ P ls st h n cu su => match st with
  | .int b :: .int a :: s => (a = b → P tgt ls s h n cu su) ∧ (¬ a = b → P nx ls s h n cu su)
  | _ => False
def zt_icmpne (tgt nx : Nat) : zT := fun _ _ P ls st h n cu su => match st with
  | .int b :: .int a :: s => (¬ a = b → P tgt ls s h n cu su) ∧ (a = b → P nx ls s h n cu su)
  | _ => False
def zt_icmplt (tgt nx : Nat) : zT := fun _ _ P ls st h n cu su => match st with
  | .int b :: .int a :: s => (a < b → P tgt ls s h n cu su) ∧ (¬ a < b → P nx ls s h n cu su)
  | _ => False
def zt_icmpge (tgt nx : Nat) : zT := fun _ _ P ls st h n cu su => match st with
  | .int b :: .int a :: s => (b ≤ a → P tgt ls s h n cu su) ∧ (¬ b ≤ a → P nx ls s h n cu su)
  | _ => False
def zt_icmpgt (tgt nx : Nat) : zT := fun _ _ P ls st h n cu su => match st with
  | .int b :: .int a :: s => (b < a → P tgt ls s h n cu su) ∧ (¬ b < a → P nx ls s h n cu su)
  | _ => False
def zt_icmple (tgt nx : Nat) : zT := fun _ _ P ls st h n cu su => match st with
  | .int b :: .int a :: s => (a ≤ b → P tgt ls s h n cu su) ∧ (¬ a ≤ b → P nx ls s h n cu su)
  | _ => False
def zt_ifnull (nx : Nat) : zT := fun _ _ P ls st h n cu su => match st with
  | .ref _ :: s => P nx ls s h n cu su
  | _ => False
/-- a switch of a few keys, the default last -/
def zt_lookup (ps : List (Int32 × Nat)) (dflt : Nat) : zT := fun _ _ P ls st h n cu su => match st with
  | .int a :: s => (∀ q ∈ ps, a = q.1 → P q.2 ls s h n cu su) ∧ ((∀ q ∈ ps, ¬ a = q.1) → P dflt ls s h n cu su)
  | _ => False
-- cells
def zt_getf (ci k nx : Nat) : zT := fun _ _ P ls st h n cu su => match st with
  | .ref b :: s => ∃ fs, h b = .inr (ci, fs) ∧ ∃ v, fs[k]? = some v ∧ P nx ls (v :: s) h n cu su
  | _ => False
def zt_putf (ci k : Nat) (ty : FieldType) (nx : Nat) : zT := fun _ _ P ls st h n cu su => match st with
  | v :: .ref b :: s => ∃ fs, h b = .inr (ci, fs) ∧ k < fs.length ∧ (narrow ty v = v ∧ fits ty v = true) ∧ P nx ls s (zupd h b (.inr (ci, fs.set k v))) n cu su
  | _ => False
def zt_iald (nx : Nat) : zT := fun _ _ P ls st h n cu su => match st with
  | .int i :: .ref a :: s => ∃ k f, h a = .inl (0, k, .inl f) ∧ vp_in i k ∧ P nx ls (.int (f i.toNatClampNeg) :: s) h n cu su
  | _ => False
def zt_zald (nx : Nat) : zT := fun _ _ P ls st h n cu su => match st with
  | .int i :: .ref a :: s => ∃ k f, h a = .inl (1, k, .inl f) ∧ vp_in i k ∧ P nx ls (.int (f i.toNatClampNeg) :: s) h n cu su
  | _ => False
def zt_lald (nx : Nat) : zT := fun _ _ P ls st h n cu su => match st with
  | .int i :: .ref a :: s => ∃ k f, h a = .inl (2, k, .inr (.inl f)) ∧ vp_in i k ∧ P nx ls (.long (f i.toNatClampNeg) :: s) h n cu su
  | _ => False
def zt_dald (nx : Nat) : zT := fun _ _ P ls st h n cu su => match st with
  | .int i :: .ref a :: s => ∃ k f, h a = .inl (3, k, .inr (.inr (.inr (.inl f)))) ∧ vp_in i k ∧ P nx ls (.double (f i.toNatClampNeg) :: s) h n cu su
  | _ => False
def zt_aald (nx : Nat) : zT := fun _ _ P ls st h n cu su => match st with
  | .int i :: .ref a :: s => ∃ k f, h a = .inl (4, k, .inr (.inr (.inr (.inr f)))) ∧ vp_in i k ∧ P nx ls (va_rf (f i.toNatClampNeg) :: s) h n cu su
  | _ => False
def zt_iast (nx : Nat) : zT := fun _ _ P ls st h n cu su => match st with
  | .int x :: .int i :: .ref a :: s => ∃ k f, h a = .inl (0, k, .inl f) ∧ vp_in i k ∧ P nx ls s (zupd h a (.inl (0, k, .inl (upd f i.toNatClampNeg x)))) n cu su
  | _ => False
def zt_zast (nx : Nat) : zT := fun _ _ P ls st h n cu su => match st with
  | .int x :: .int i :: .ref a :: s => ∃ k f, h a = .inl (1, k, .inl f) ∧ vp_in i k ∧ P nx ls s (zupd h a (.inl (1, k, .inl (upd f i.toNatClampNeg (vp_nar .boolean x))))) n cu su
  | _ => False
def zt_last (nx : Nat) : zT := fun _ _ P ls st h n cu su => match st with
  | .long x :: .int i :: .ref a :: s => ∃ k f, h a = .inl (2, k, .inr (.inl f)) ∧ vp_in i k ∧ P nx ls s (zupd h a (.inl (2, k, .inr (.inl (vp_updL f i.toNatClampNeg x))))) n cu su
  | _ => False
def zt_dast (nx : Nat) : zT := fun _ _ P ls st h n cu su => match st with
  | .double x :: .int i :: .ref a :: s => ∃ k f, h a = .inl (3, k, .inr (.inr (.inr (.inl f)))) ∧ vp_in i k ∧ P nx ls s (zupd h a (.inl (3, k, .inr (.inr (.inr (.inl (vf_upd f i.toNatClampNeg x))))))) n cu su
  | _ => False
/-- a cell of the class of number ci goes into an array of references -/
def zt_aast (ci nx : Nat) : zT := fun _ _ P ls st h n cu su => match st with
  | .ref v :: .int i :: .ref a :: s => ∃ k f, h a = .inl (4, k, .inr (.inr (.inr (.inr f)))) ∧ (∃ fs, h v = .inr (ci, fs)) ∧ vp_in i k ∧ P nx ls s (zupd h a (.inl (4, k, .inr (.inr (.inr (.inr (va_up f i.toNatClampNeg (some v)))))))) n cu su
  | _ => False
def zt_alen (nx : Nat) : zT := fun _ _ P ls st h n cu su => match st with
  | .ref a :: s => ∃ t x, h a = .inl (t, x) ∧ t < 5 ∧ P nx ls (.int (Int32.ofNat x.1) :: s) h n cu su
  | _ => False
/-- the room that a method has for what it makes -/
def zfit (lim : Nat × Nat) (cu su : Nat) : Bool := Nat.ble cu lim.1 && Nat.ble su lim.2
def zt_newi (lim : Nat × Nat) (nx : Nat) : zT := fun _ _ P ls st h n cu su => match st with
  | .int k :: s => ¬ k < 0 ∧ k.toNatClampNeg ≤ 1000 ∧ zfit lim (cu + 1) (su + k.toNatClampNeg) = true ∧ P nx ls (.ref n :: s) (zupd h n (.inl (0, k.toNatClampNeg, .inl (fun _ => 0)))) (n + 1) (cu + 1) (su + k.toNatClampNeg)
  | _ => False
def zt_newz (lim : Nat × Nat) (nx : Nat) : zT := fun _ _ P ls st h n cu su => match st with
  | .int k :: s => ¬ k < 0 ∧ k.toNatClampNeg ≤ 1000 ∧ zfit lim (cu + 1) (su + k.toNatClampNeg) = true ∧ P nx ls (.ref n :: s) (zupd h n (.inl (1, k.toNatClampNeg, .inl (fun _ => 0)))) (n + 1) (cu + 1) (su + k.toNatClampNeg)
  | _ => False
def zt_newl (lim : Nat × Nat) (nx : Nat) : zT := fun _ _ P ls st h n cu su => match st with
  | .int k :: s => ¬ k < 0 ∧ k.toNatClampNeg ≤ 1000 ∧ zfit lim (cu + 1) (su + k.toNatClampNeg) = true ∧ P nx ls (.ref n :: s) (zupd h n (.inl (2, k.toNatClampNeg, .inr (.inl (fun _ => 0))))) (n + 1) (cu + 1) (su + k.toNatClampNeg)
  | _ => False
def zt_newd (lim : Nat × Nat) (nx : Nat) : zT := fun _ _ P ls st h n cu su => match st with
  | .int k :: s => ¬ k < 0 ∧ k.toNatClampNeg ≤ 1000 ∧ zfit lim (cu + 1) (su + k.toNatClampNeg) = true ∧ P nx ls (.ref n :: s) (zupd h n (.inl (3, k.toNatClampNeg, .inr (.inr (.inr (.inl (fun _ => 0))))))) (n + 1) (cu + 1) (su + k.toNatClampNeg)
  | _ => False
def zt_newa (lim : Nat × Nat) (nx : Nat) : zT := fun _ _ P ls st h n cu su => match st with
  | .int k :: s => ¬ k < 0 ∧ k.toNatClampNeg ≤ 1000 ∧ zfit lim (cu + 1) (su + k.toNatClampNeg) = true ∧ P nx ls (.ref n :: s) (zupd h n (.inl (4, k.toNatClampNeg, .inr (.inr (.inr (.inr (fun _ => none))))))) (n + 1) (cu + 1) (su + k.toNatClampNeg)
  | _ => False
/-- a new object of the class of number ci, whose fields begin as fs -/
def zt_new (ci : Nat) (fs : List Value) (lim : Nat × Nat) (nx : Nat) : zT := fun _ _ P ls st h n cu su =>
  zfit lim (cu + 1) (su + fs.length) = true ∧ P nx ls (.ref n :: st) (zupd h n (.inr (ci, fs))) (n + 1) (cu + 1) (su + fs.length)
def zt_objinit (nx : Nat) : zT := fun _ _ P ls st h n cu su => match st with
  | .ref _ :: s => (match zsm s 8 with
    | true => P nx ls s h n cu su
    | false => False)
  | _ => False
def zback (P : zP) (nx : Nat) (ls : zL) (s : List Value) (cu su : Nat) : zQ := fun x r h n => match x with
  | 0 => match r with
    | some v => P nx ls (v :: s) h n cu su
    | none => P nx ls s h n cu su
  | _ + 1 => False
/-- a call of the method of number y with k arguments (the object first), which makes nothing -/
def zt_call (y k nx : Nat) : zT := fun C _ P ls st h n cu su => match zpop k [] st with
  | some (as, s) => (match zsm s 8 with
    | true => C y as h n (zback P nx ls s cu su)
    | false => False)
  | none => False
/-- .. of an object's own method: the object's class has the number ci -/
def zt_callv (ci y k nx : Nat) : zT := fun C _ P ls st h n cu su => match zpop k [] st with
  | some (.ref b :: as, s) => (match zsm s 8 with
    | true => ∃ fs, h b = .inr (ci, fs) ∧ C y (.ref b :: as) h n (zback P nx ls s cu su)
    | false => False)
  | _ => False
/-- a call of a method that may make cells: mk of them, with sk slots -/
def zt_callm (y k mk sk : Nat) (lim : Nat × Nat) (nx : Nat) : zT := fun C _ P ls st h n cu su => match zpop k [] st with
  | some (as, s) => (match zsm s 8 with
    | true => zfit lim (cu + mk) (su + sk) = true ∧ C y as h n (zback P nx ls s (cu + mk) (su + sk))
    | false => False)
  | none => False
/-- where an exception of the kind e goes on: the local that takes it, the place behind -/
def zhs : List (Nat × Nat × Nat) → Nat → Option (Nat × Nat)
  | [], _ => none
  | (x, i, tgt) :: l, e => match Nat.beq x e with
    | true => some (i, tgt)
    | false => zhs l e
def zbackx (P : zP) (nx : Nat) (ls : zL) (s : List Value) (hs : List (Nat × Nat × Nat)) (cu su : Nat) : zQ := fun x r h n => match x with
  | 0 => match r with
    | some v => P nx ls (v :: s) h n cu su
    | none => P nx ls s h n cu su
  | e + 1 => match zhs hs e with
    | some (i, tgt) => (match zok ls i with
      | true => P tgt (zclr ls i) [] h n cu su
      | false => False)
    | none => False
/-- a call of an object's own method that may throw; hs: for each kind of exception where it goes on, behind the handler's first instruction, which drops it -/
def zt_callx (ci y k mk sk : Nat) (lim : Nat × Nat) (hs : List (Nat × Nat × Nat)) (nx : Nat) : zT := fun C _ P ls st h n cu su => match zpop k [] st with
  | some (.ref b :: as, s) => (match zsm s 8 with
    | true => zfit lim (cu + mk) (su + sk) = true ∧ ∃ fs, h b = .inr (ci, fs) ∧ C y (.ref b :: as) h n (zbackx P nx ls s hs (cu + mk) (su + sk))
    | false => False)
  | _ => False
/-- a call of an object's own method that may make cells -/
def zt_callvm (ci y k mk sk : Nat) (lim : Nat × Nat) (nx : Nat) : zT := fun C _ P ls st h n cu su => match zpop k [] st with
  | some (.ref b :: as, s) => (match zsm s 8 with
    | true => zfit lim (cu + mk) (su + sk) = true ∧ ∃ fs, h b = .inr (ci, fs) ∧ C y (.ref b :: as) h n (zback P nx ls s (cu + mk) (su + sk))
    | false => False)
  | _ => False
def zt_imax (nx : Nat) : zT := fun _ _ P ls st h n cu su => match st with
  | .int b :: .int a :: s => (match zsm s 8 with
    | true => P nx ls (.int (if a < b then b else a) :: s) h n cu su
    | false => False)
  | _ => False
def zt_imin (nx : Nat) : zT := fun _ _ P ls st h n cu su => match st with
  | .int b :: .int a :: s => (match zsm s 8 with
    | true => P nx ls (.int (if b < a then b else a) :: s) h n cu su
    | false => False)
  | _ => False
/-- 'throw new E("..")', all of it -/
def zt_throw (x : Nat) (lim : Nat × Nat) : zT := fun _ R _ _ st h n cu su => match st with
  | [] => zfit lim (cu + 1) (su + 6) = true ∧ R (x + 1) none h n
  | _ => False
-- ends
def zt_iret : zT := fun _ R _ _ st h n _ _ => match st with
  | [.int v] => R 0 (some (.int v)) h n
  | _ => False
def zt_zret : zT := fun _ R _ _ st h n _ _ => match st with
  | [.int v] => (v = 0 ∨ v = 1) ∧ R 0 (some (.int v)) h n
  | _ => False
def zt_lret : zT := fun _ R _ _ st h n _ _ => match st with
  | [.long v] => R 0 (some (.long v)) h n
  | _ => False
def zt_dret : zT := fun _ R _ _ st h n _ _ => match st with
  | [.double v] => R 0 (some (.double v)) h n
  | _ => False
def zt_aret : zT := fun _ R _ _ st h n _ _ => match st with
  | [.ref v] => R 0 (some (.ref v)) h n
  | _ => False
def zt_vret : zT := fun _ R _ _ st h n _ _ => match st with
  | [] => R 0 none h n
  | _ => False
-- a method's table: its instructions by their places
def zlk : List (Nat × zT) → Nat → Option zT
  | [], _ => none
  | (q, t) :: l, pc => match Nat.beq q pc with
    | true => some t
    | false => zlk l pc
/-- a table in pieces of 64 places -/
def zfet (T : List (List (Nat × zT))) (pc : Nat) : Option zT := match T[pc / 64]? with
  | some l => zlk l pc
  | none => none
def zstep (T : List (List (Nat × zT))) (C : zK) (R : zQ) (P : zP) : zP := fun pc ls st h n cu su => match zfet T pc with
  | some t => t C R P ls st h n cu su
  | none => False
/-- steps until one comes to a place of 'cut', or k are done -/
def zrun (T : List (List (Nat × zT))) (C : zK) (R : zQ) (P : zP) (cut : List Nat) : Nat → zP
  | 0 => P
  | k + 1 => fun pc ls st h n cu su => match cut.elem pc with
    | true => P pc ls st h n cu su
    | false => match zfet T pc with
      | some t => t C R (zrun T C R P cut k) ls st h n cu su
      | none => False
/-- a transformer grows with what it asks of the next state -/
def zmono (t : zT) : Prop := ∀ (C : zK) (R : zQ) (P P' : zP), (∀ y as h n (Q Q' : zQ), (∀ x r h n, Q x r h n → Q' x r h n) → C y as h n Q → C y as h n Q') → (∀ pc ls st h n cu su, P pc ls st h n cu su → P' pc ls st h n cu su) → ∀ ls st h n cu su, t C R P ls st h n cu su → t C R P' ls st h n cu su
end
section
/-! WHAT THE ABSTRACT MACHINE SAYS OF THE REAL ONE -/
def zv (ad : Nat → Nat) : Value → Value
  | .ref a => .ref (ad a)
  | v => v
def zarr (ad : Nat → Nat) : vp_A → vp_A
  | (k, .inr (.inr (.inr (.inr f)))) => (k, .inr (.inr (.inr (.inr fun j => (f j).map ad))))
  | a => a
def zcell (ad : Nat → Nat) (dA : Nat → ClassId) : zC → va_E
  | .inl (t, a) => .inl (dA t, zarr ad a)
  | .inr (ci, fs) => .inr (ci, fs.map (zv ad))
def zW (dA : Nat → ClassId) (ad : Nat → Nat) (h : zH) (n : Nat) : va_W := (List.range n).map fun i => (ad i, zcell ad dA (h i))
def zlv (ad : Nat → Nat) : Nat → zL → List (Nat × Value)
  | _, [] => []
  | i, some v :: l => (i, zv ad v) :: zlv ad (i + 1) l
  | i, none :: l => zlv ad (i + 1) l
-- references are cells
def zwv (n : Nat) (v : Value) : Prop := ∀ a, v = .ref a → a < n
def zwa (n : Nat) : vp_A → Prop
  | (_, .inr (.inr (.inr (.inr f)))) => ∀ j a, f j = some a → a < n
  | _ => True
def zwc (n : Nat) : zC → Prop
  | .inl (_, a) => zwa n a
  | .inr (_, fs) => ∀ v ∈ fs, zwv n v
def zwh (n : Nat) (h : zH) : Prop := ∀ i, i < n → zwc n (h i)
def zwl (n : Nat) (ls : zL) : Prop := ∀ i v, zget ls i = some v → zwv n v
def zws (n : Nat) (st : List Value) : Prop := ∀ v ∈ st, zwv n v
theorem zwv_int {n : Nat} {x : Int32} : zwv n (.int x) := fun _ h => nomatch h
theorem zwv_long {n : Nat} {x : Int64} : zwv n (.long x) := fun _ h => nomatch h
theorem zwv_double {n : Nat} {x : UInt64} : zwv n (.double x) := fun _ h => nomatch h
theorem zwv_null {n : Nat} : zwv n .null := fun _ h => nomatch h
theorem zwv_ref {n a : Nat} (h : a < n) : zwv n (.ref a) := fun b hb => by cases hb; exact h
theorem zws_cons {n : Nat} {v : Value} {st : List Value} (h : zwv n v) (k : zws n st) : zws n (v :: st) := fun w hw => (List.mem_cons.mp hw).elim (fun e => by rw [e]; exact h) (k w)
theorem zws_tl {n : Nat} {v : Value} {st : List Value} (h : zws n (v :: st)) : zws n st := fun w hw => h w (List.mem_cons_of_mem _ hw)
theorem zws_hd {n : Nat} {v : Value} {st : List Value} (h : zws n (v :: st)) : zwv n v := h v List.mem_cons_self
theorem zws_ref {n a : Nat} {st : List Value} (h : zws n (.ref a :: st)) : a < n := zws_hd h a rfl
theorem zws_nil {n : Nat} : zws n [] := fun _ h => nomatch h
theorem zwv_up {n n' : Nat} {v : Value} (h : zwv n v) (k : n ≤ n') : zwv n' v := fun a e => Nat.lt_of_lt_of_le (h a e) k
theorem zws_up {n n' : Nat} {st : List Value} (h : zws n st) (k : n ≤ n') : zws n' st := fun v hv => zwv_up (h v hv) k
theorem zwl_up {n n' : Nat} {ls : zL} (h : zwl n ls) (k : n ≤ n') : zwl n' ls := fun i v e => zwv_up (h i v e) k
theorem zwa_up {n n' : Nat} {a : vp_A} (h : zwa n a) (k : n ≤ n') : zwa n' a := by
  obtain ⟨z, f | f | f | f | f⟩ := a
  · exact trivial
  · exact trivial
  · exact trivial
  · exact trivial
  · exact fun j b e => Nat.lt_of_lt_of_le (h j b e) k
theorem zwc_up {n n' : Nat} {c : zC} (h : zwc n c) (k : n ≤ n') : zwc n' c := by
  obtain ⟨t, a⟩ | ⟨ci, fs⟩ := c
  · exact zwa_up h k
  · exact fun v hv => zwv_up (h v hv) k
theorem zwh_set {n a : Nat} {h : zH} {c : zC} (hw : zwh n h) (hc : zwc n c) : zwh n (zupd h a c) := fun i hi => by
  unfold zupd
  by_cases e : i = a
  · rw [if_pos e]; exact hc
  · rw [if_neg e]; exact hw i hi
theorem zwh_new {n : Nat} {h : zH} {c : zC} (hw : zwh n h) (hc : zwc n c) : zwh (n + 1) (zupd h n c) := fun i hi => by
  unfold zupd
  by_cases e : i = n
  · rw [if_pos e]; exact zwc_up hc (Nat.le_succ n)
  · rw [if_neg e]; exact zwc_up (hw i (by omega)) (Nat.le_succ n)
-- the same addresses, the same values
theorem zv_agree {ad ad' : Nat → Nat} {n : Nat} (ha : ∀ i, i < n → ad' i = ad i) {v : Value} (h : zwv n v) : zv ad' v = zv ad v := by
  cases v <;> first | rfl | exact congrArg Value.ref (ha _ (h _ rfl))
theorem zvs_agree {ad ad' : Nat → Nat} {n : Nat} (ha : ∀ i, i < n → ad' i = ad i) {st : List Value} (h : zws n st) : st.map (zv ad') = st.map (zv ad) := List.map_congr_left fun v hv => zv_agree ha (h v hv)
theorem zarr_agree {ad ad' : Nat → Nat} {n : Nat} (ha : ∀ i, i < n → ad' i = ad i) {a : vp_A} (h : zwa n a) : zarr ad' a = zarr ad a := by
  obtain ⟨z, f | f | f | f | f⟩ := a
  · rfl
  · rfl
  · rfl
  · rfl
  · have : (fun j => (f j).map ad') = fun j => (f j).map ad := by
      funext j
      cases hj : f j with
      | none => rfl
      | some b => exact congrArg some (ha b (h j b hj))
    show (z, _) = (z, _)
    rw [this]
theorem zcell_agree {ad ad' : Nat → Nat} {dA : Nat → ClassId} {n : Nat} (ha : ∀ i, i < n → ad' i = ad i) {c : zC} (h : zwc n c) : zcell ad' dA c = zcell ad dA c := by
  obtain ⟨t, a⟩ | ⟨ci, fs⟩ := c
  · show Sum.inl _ = Sum.inl _
    rw [zarr_agree ha h]
  · show Sum.inr _ = Sum.inr _
    rw [zvs_agree ha h]
theorem zW_agree {ad ad' : Nat → Nat} {dA : Nat → ClassId} {h : zH} {n : Nat} (ha : ∀ i, i < n → ad' i = ad i) (hw : zwh n h) : zW dA ad' h n = zW dA ad h n := List.map_congr_left fun i hi => by
  have hl := List.mem_range.mp hi
  rw [ha i hl, zcell_agree ha (hw i hl)]
theorem zlv_mem {ad : Nat → Nat} {ls : zL} : ∀ (k : Nat) (q : Nat × Value), q ∈ zlv ad k ls ↔ ∃ i v, zget ls i = some v ∧ q = (k + i, zv ad v) := by
  induction ls with
  | nil => intro k q; simp [zlv, zget]
  | cons a ls ih =>
    intro k q
    cases a with
    | none =>
      simp only [zlv, ih]
      constructor
      · rintro ⟨i, v, h, rfl⟩
        exact ⟨i + 1, v, h, by rw [Nat.add_assoc, Nat.add_comm 1 i]⟩
      · rintro ⟨i, v, h, rfl⟩
        cases i with
        | zero => exact nomatch h
        | succ i => exact ⟨i, v, h, by rw [Nat.add_assoc, Nat.add_comm 1 i]⟩
    | some w =>
      simp only [zlv, List.mem_cons, ih]
      constructor
      · rintro (rfl | ⟨i, v, h, rfl⟩)
        · exact ⟨0, w, rfl, rfl⟩
        · exact ⟨i + 1, v, h, by rw [Nat.add_assoc, Nat.add_comm 1 i]⟩
      · rintro ⟨i, v, h, rfl⟩
        cases i with
        | zero => cases h; exact Or.inl rfl
        | succ i => exact Or.inr ⟨i, v, h, by rw [Nat.add_assoc, Nat.add_comm 1 i]⟩
theorem zlv_agree {ad ad' : Nat → Nat} {n : Nat} (ha : ∀ i, i < n → ad' i = ad i) {ls : zL} (h : zwl n ls) {lsA : Array Slot} {nL : Nat} (hl : lv_has lsA nL (zlv ad 0 ls)) : lv_has lsA nL (zlv ad' 0 ls) := by
  refine ⟨hl.1, hl.2.1, fun q hq => ?_⟩
  obtain ⟨i, v, h1, rfl⟩ := (zlv_mem 0 q).mp hq
  rw [zv_agree ha (h i v h1)]
  exact hl.2.2 _ ((zlv_mem 0 _).mpr ⟨i, v, h1, rfl⟩)
theorem zl_at {ad : Nat → Nat} {ls : zL} {lsA : Array Slot} {nL i : Nat} {v : Value} (hl : lv_has lsA nL (zlv ad 0 ls)) (h : zget ls i = some v) : lsA[i]? = some (.val (zv ad v)) := by
  have := hl.2.2 (0 + i, zv ad v) ((zlv_mem 0 _).mpr ⟨i, v, h, rfl⟩)
  rwa [Nat.zero_add] at this
theorem zl_sub {ad : Nat → Nat} {ls ls' : zL} {lsA : Array Slot} {nL : Nat} (hl : lv_has lsA nL (zlv ad 0 ls)) (h : ∀ i v, zget ls' i = some v → zget ls i = some v) : lv_has lsA nL (zlv ad 0 ls') := by
  refine ⟨hl.1, hl.2.1, fun q hq => ?_⟩
  obtain ⟨i, v, h1, rfl⟩ := (zlv_mem 0 q).mp hq
  exact hl.2.2 _ ((zlv_mem 0 _).mpr ⟨i, v, h i v h1, rfl⟩)
theorem zget_set {ls : zL} {i j : Nat} {v w : Value} (h : zget (zset ls i v) j = some w) : (j = i ∧ w = v) ∨ (j ≠ i ∧ zget ls j = some w) := by
  induction ls generalizing i j with
  | nil => exact nomatch h
  | cons a ls ih =>
    cases i with
    | zero =>
      cases j with
      | zero => cases h; exact Or.inl ⟨rfl, rfl⟩
      | succ j => exact Or.inr ⟨Nat.succ_ne_zero j, h⟩
    | succ i =>
      cases j with
      | zero => exact Or.inr ⟨(Nat.succ_ne_zero i).symm, h⟩
      | succ j =>
        rcases ih (i := i) (j := j) h with ⟨e, e2⟩ | ⟨e, e2⟩
        · exact Or.inl ⟨by rw [e], e2⟩
        · exact Or.inr ⟨fun z => e (Nat.succ.inj z), e2⟩
theorem zget_clr {ls : zL} {i j : Nat} {w : Value} (h : zget (zclr ls i) j = some w) : j ≠ i ∧ zget ls j = some w := by
  induction ls generalizing i j with
  | nil => exact nomatch h
  | cons a ls ih =>
    cases i with
    | zero =>
      cases j with
      | zero => exact nomatch h
      | succ j => exact ⟨Nat.succ_ne_zero j, h⟩
    | succ i =>
      cases j with
      | zero => exact ⟨(Nat.succ_ne_zero i).symm, h⟩
      | succ j =>
        obtain ⟨e, e2⟩ := ih (i := i) (j := j) h
        exact ⟨fun z => e (Nat.succ.inj z), e2⟩
theorem zget_clrs {is : List Nat} : ∀ {ls : zL} {j : Nat} {w : Value}, zget (zclrs ls is) j = some w → zget ls j = some w := by
  induction is with
  | nil => intro ls j w h; exact h
  | cons i is ih => intro ls j w h; exact (zget_clr (ih (ls := zclr ls i) h)).2
theorem zok_at {ls : zL} {i j : Nat} {w : Value} (h : zok ls i = true) (hj : zget ls j = some w) (hc : w.category = 2) : ¬ j + 1 = i := by
  intro e
  subst e
  unfold zok at h
  simp only [hj] at h
  cases w <;> simp_all [Value.category]
theorem zcat (ad : Nat → Nat) (v : Value) : (zv ad v).category = v.category := by cases v <;> rfl
/-- a store of one word: what is left of the list that the kit's row names -/
theorem zl_store1 {ad : Nat → Nat} {ls : zL} {lsA : Array Slot} {nL i : Nat} {v : Value} (hk : zok ls i = true) (hl : lv_has lsA nL ((i, zv ad v) :: (zlv ad 0 ls).filter (fun q => !(q.1 == i) && !(q.1 + 1 == i && q.2.category == 2)))) : lv_has lsA nL (zlv ad 0 (zset ls i v)) := by
  refine ⟨hl.1, hl.2.1, fun q hq => ?_⟩
  obtain ⟨j, w, h1, rfl⟩ := (zlv_mem 0 q).mp hq
  rw [Nat.zero_add]
  rcases zget_set h1 with ⟨rfl, rfl⟩ | ⟨hne, h2⟩
  · exact hl.2.2 _ List.mem_cons_self
  · refine hl.2.2 _ (List.mem_cons_of_mem _ (List.mem_filter.mpr ⟨(zlv_mem 0 _).mpr ⟨j, w, h2, by rw [Nat.zero_add]⟩, ?_⟩))
    by_cases hc : w.category = 2
    · have h3 := zok_at hk h2 hc
      simp [hne, h3]
    · simp [hne, zcat, hc]
theorem zl_store2 {ad : Nat → Nat} {ls : zL} {lsA : Array Slot} {nL i : Nat} {v : Value} (hk : zok ls i = true) (hl : lv_has lsA nL ((i, zv ad v) :: (zlv ad 0 ls).filter (fun q => !(q.1 == i) && (!(q.1 == i + 1) && !(q.1 + 1 == i && q.2.category == 2))))) : lv_has lsA nL (zlv ad 0 (zclr (zset ls i v) (i + 1))) := by
  refine ⟨hl.1, hl.2.1, fun q hq => ?_⟩
  obtain ⟨j, w, h1, rfl⟩ := (zlv_mem 0 q).mp hq
  rw [Nat.zero_add]
  obtain ⟨hn1, h1⟩ := zget_clr h1
  rcases zget_set h1 with ⟨rfl, rfl⟩ | ⟨hne, h2⟩
  · exact hl.2.2 _ List.mem_cons_self
  · refine hl.2.2 _ (List.mem_cons_of_mem _ (List.mem_filter.mpr ⟨(zlv_mem 0 _).mpr ⟨j, w, h2, by rw [Nat.zero_add]⟩, ?_⟩))
    by_cases hc : w.category = 2
    · have h3 := zok_at hk h2 hc
      simp [hne, hn1, h3]
    · simp [hne, hn1, zcat, hc]
theorem zwl_set {n : Nat} {ls : zL} {i : Nat} {v : Value} (h : zwl n ls) (hv : zwv n v) : zwl n (zset ls i v) := fun j w e => by
  rcases zget_set e with ⟨-, rfl⟩ | ⟨-, h2⟩
  · exact hv
  · exact h j w h2
theorem zwl_clr {n : Nat} {ls : zL} {i : Nat} (h : zwl n ls) : zwl n (zclr ls i) := fun j w e => h j w (zget_clr e).2
-- the world
theorem zW_get {dA : Nat → ClassId} {ad : Nat → Nat} {h : zH} {n a : Nat} (ha : a < n) : (zW dA ad h n)[a]? = some (ad a, zcell ad dA (h a)) := by
  unfold zW
  rw [List.getElem?_map, List.getElem?_range ha]
  rfl
theorem zW_len {dA : Nat → ClassId} {ad : Nat → Nat} {h : zH} {n : Nat} : (zW dA ad h n).length = n := by simp [zW]
theorem zW_set {dA : Nat → ClassId} {ad : Nat → Nat} {h : zH} {n a : Nat} {c : zC} : (zW dA ad h n).set a (ad a, zcell ad dA c) = zW dA ad (zupd h a c) n := by
  refine List.ext_getElem? fun i => ?_
  by_cases hi : i < n
  · by_cases e : i = a
    · subst e
      rw [List.getElem?_set_self (by rw [zW_len]; exact hi), zW_get hi]
      simp [zupd]
    · rw [List.getElem?_set_ne (Ne.symm e), zW_get hi, zW_get hi]
      simp [zupd, e]
  · rw [List.getElem?_eq_none (by simp [zW_len]; omega), List.getElem?_eq_none (by simp [zW_len]; omega)]
def zadd (ad : Nat → Nat) (n q : Nat) : Nat → Nat := fun i => if i = n then q else ad i
theorem zadd_lt {ad : Nat → Nat} {n q : Nat} : ∀ i, i < n → zadd ad n q i = ad i := fun i hi => by simp [zadd, Nat.ne_of_lt hi]
theorem zadd_n {ad : Nat → Nat} {n q : Nat} : zadd ad n q n = q := by simp [zadd]
theorem zW_new {dA : Nat → ClassId} {ad : Nat → Nat} {h : zH} {n q : Nat} {c : zC} (hw : zwh n h) (hc : zwc n c) : zW dA ad h n ++ [(q, zcell ad dA c)] = zW dA (zadd ad n q) (zupd h n c) (n + 1) := by
  have e1 : zW dA (zadd ad n q) (zupd h n c) (n + 1) = zW dA (zadd ad n q) (zupd h n c) n ++ [(zadd ad n q n, zcell (zadd ad n q) dA (zupd h n c n))] := by simp [zW, List.range_succ]
  rw [e1, zadd_n, show zupd h n c n = c by simp [zupd], zcell_agree zadd_lt hc]
  congr 1
  refine List.map_congr_left fun i hi => ?_
  have hl := List.mem_range.mp hi
  rw [zadd_lt i hl, show zupd h n c i = h i by simp [zupd, Nat.ne_of_lt hl], zcell_agree zadd_lt (hw i hl)]
theorem zsm_ok : ∀ (s : List Value) (k : Nat), zsm s k = true → (s.map fun v => v.category).sum ≤ k := by
  intro s
  induction s with
  | nil => intro k _; exact Nat.zero_le k
  | cons v s ih =>
    intro k h
    rw [List.map_cons, List.sum_cons]
    cases v with
    | long x =>
      match k, h with
      | k' + 2, h => have := ih k' h; show 2 + _ ≤ _; omega
    | double x =>
      match k, h with
      | k' + 2, h => have := ih k' h; show 2 + _ ≤ _; omega
    | int x =>
      match k, h with
      | k' + 1, h => have := ih k' h; show 1 + _ ≤ _; omega
    | float x =>
      match k, h with
      | k' + 1, h => have := ih k' h; show 1 + _ ≤ _; omega
    | null =>
      match k, h with
      | k' + 1, h => have := ih k' h; show 1 + _ ≤ _; omega
    | ref x =>
      match k, h with
      | k' + 1, h => have := ih k' h; show 1 + _ ≤ _; omega
    | retAddr x =>
      match k, h with
      | k' + 1, h => have := ih k' h; show 1 + _ ≤ _; omega
theorem zsm_map {ad : Nat → Nat} {s : List Value} : ((s.map (zv ad)).map fun v => v.category) = s.map fun v => v.category := by
  rw [List.map_map]
  exact List.map_congr_left fun v _ => zcat ad v
theorem zpop_spec : ∀ (k : Nat) (acc st as s : List Value), zpop k acc st = some (as, s) → as.reverse ++ s = acc.reverse ++ st ∧ as.length = k + acc.length := by
  intro k
  induction k with
  | zero => intro acc st as s h; cases h; exact ⟨rfl, (Nat.zero_add _).symm⟩
  | succ k ih =>
    intro acc st as s h
    cases st with
    | nil => exact nomatch h
    | cons v st =>
      obtain ⟨h1, h2⟩ := ih (v :: acc) st as s h
      refine ⟨by rw [h1]; simp, by rw [h2]; simp; omega⟩
theorem zfit_ok {lim : Nat × Nat} {cu su : Nat} (h : zfit lim cu su = true) : cu ≤ lim.1 ∧ su ≤ lim.2 := by
  simp only [zfit, Bool.and_eq_true] at h
  exact ⟨Nat.le_of_ble_eq_true h.1, Nat.le_of_ble_eq_true h.2⟩
end
section
/-! each instruction's transformer is sound -/
def zTys (dA : Nat → ClassId) (SC : String) : List (ClassId × FieldType) := [(dA 0, .int), (dA 1, .boolean), (dA 2, .long), (dA 3, .double), (dA 4, .object SC)]
section ZSound
variable {p : Program} {l : Launch} {e : Env} {R : Room} {s : State} {m : MethodId} {args : Array Value} {below : List Frame} {meth : Method} {c : Code} {Qf : State → Prop}
variable {cc : ByteArray} {nL : Nat} {Ts : List Cond} {own SC : String} {D : va_G} {cl : List vw_C} {dA : Nat → ClassId} {A : Nat → Prop} {ad0 : Nat → Nat} {n0 : Nat}
/-- what a state of the abstract machine says of the real one: from any state that it pictures, the walk goes on -/
def zConc (p : Program) (l : Launch) (e : Env) (R : Room) (s : State) (m : MethodId) (args : Array Value) (below : List Frame) (meth : Method) (c : Code) (Qf : State → Prop) (nL : Nat) (D : va_G) (cl : List vw_C) (dA : Nat → ClassId) (A : Nat → Prop) (ad0 : Nat → Nat) (n0 : Nat) : zP := fun pc ls st h n cu su =>
  (zwl n ls ∧ zws n st ∧ zwh n h) → (cu ≤ R.cells ∧ su ≤ R.slots) → n0 ≤ n → ∀ (ad : Nat → Nat) (H : Heap) (locs : List Loc) (lsA : Array Slot), (∀ i, i < n0 → ad i = ad0 i) →
    va_P D cl (zW dA ad h n) H → va_D A (zW dA ad h n) → va_S A s.heap H locs → lv_has lsA nL (zlv ad 0 ls) →
    W p l e R s m args below meth c H locs cu su Qf (F0 m pc lsA (st.map (zv ad)))
/-- a transformer is sound at a place, whatever the callees' contracts C and the end R' mean -/
def zSnd (Z : zP) (C : zK) (R' : zQ) (pc : Nat) (t : zT) : Prop := ∀ ls st h n cu su, t C R' Z ls st h n cu su → Z pc ls st h n cu su
variable {C : zK} {R' : zQ} {pc : Nat}
theorem zs_iload (F : CallFix p m c cc nL s args Ts own) {i nx : Nat} (hd : decode cc pc = .ok (.iload i, 2)) (hn : pc + 2 = nx) : zSnd (zConc p l e R s m args below meth c Qf nL D cl dA A ad0 n0) C R' pc (zt_iload i nx) := by
  intro ls st h n cu su ht hw hr hnn ad H locs lsA ha hP hD hS hl
  subst hn
  unfold zt_iload at ht
  cases hg : zget ls i with
  | none => rw [hg] at ht; exact ht.elim
  | some v =>
    rw [hg] at ht
    cases v <;> first | exact ht.elim | exact lv_iload F.1 F.2.1 hd (zl_at hl hg) (ht ⟨hw.1, zws_cons zwv_int hw.2.1, hw.2.2⟩ hr hnn ad H locs lsA ha hP hD hS hl)
theorem zs_iload_n (F : CallFix p m c cc nL s args Ts own) {k : Fin 4} {i nx : Nat} (hd : decode cc pc = .ok (.iload_n k, 1)) (hi : (k : Nat) = i) (hn : pc + 1 = nx) : zSnd (zConc p l e R s m args below meth c Qf nL D cl dA A ad0 n0) C R' pc (zt_iload i nx) := by
  intro ls st h n cu su ht hw hr hnn ad H locs lsA ha hP hD hS hl
  subst hn
  unfold zt_iload at ht
  cases hg : zget ls i with
  | none => rw [hg] at ht; exact ht.elim
  | some v =>
    rw [hg] at ht
    cases v <;> first | exact ht.elim | exact lv_iload_n F.1 F.2.1 hd hi (zl_at hl hg) (ht ⟨hw.1, zws_cons zwv_int hw.2.1, hw.2.2⟩ hr hnn ad H locs lsA ha hP hD hS hl)
theorem zs_aload (F : CallFix p m c cc nL s args Ts own) {i nx : Nat} (hd : decode cc pc = .ok (.aload i, 2)) (hn : pc + 2 = nx) : zSnd (zConc p l e R s m args below meth c Qf nL D cl dA A ad0 n0) C R' pc (zt_aload i nx) := by
  intro ls st h n cu su ht hw hr hnn ad H locs lsA ha hP hD hS hl
  subst hn
  unfold zt_aload at ht
  cases hg : zget ls i with
  | none => rw [hg] at ht; exact ht.elim
  | some v =>
    rw [hg] at ht
    cases v <;> first | exact ht.elim | exact lv_aload F.1 F.2.1 hd (zl_at hl hg) (ht ⟨hw.1, zws_cons (hw.1 _ _ hg) hw.2.1, hw.2.2⟩ hr hnn ad H locs lsA ha hP hD hS hl)
theorem zs_aload_n (F : CallFix p m c cc nL s args Ts own) {k : Fin 4} {i nx : Nat} (hd : decode cc pc = .ok (.aload_n k, 1)) (hi : (k : Nat) = i) (hn : pc + 1 = nx) : zSnd (zConc p l e R s m args below meth c Qf nL D cl dA A ad0 n0) C R' pc (zt_aload i nx) := by
  intro ls st h n cu su ht hw hr hnn ad H locs lsA ha hP hD hS hl
  subst hn
  unfold zt_aload at ht
  cases hg : zget ls i with
  | none => rw [hg] at ht; exact ht.elim
  | some v =>
    rw [hg] at ht
    cases v <;> first | exact ht.elim | exact lv_aload_n F.1 F.2.1 hd hi (zl_at hl hg) (ht ⟨hw.1, zws_cons (hw.1 _ _ hg) hw.2.1, hw.2.2⟩ hr hnn ad H locs lsA ha hP hD hS hl)
theorem zs_lload_n (F : CallFix p m c cc nL s args Ts own) {k : Fin 4} {i nx : Nat} (hd : decode cc pc = .ok (.lload_n k, 1)) (hi : (k : Nat) = i) (hn : pc + 1 = nx) : zSnd (zConc p l e R s m args below meth c Qf nL D cl dA A ad0 n0) C R' pc (zt_lload i nx) := by
  intro ls st h n cu su ht hw hr hnn ad H locs lsA ha hP hD hS hl
  subst hn
  unfold zt_lload at ht
  cases hg : zget ls i with
  | none => rw [hg] at ht; exact ht.elim
  | some v =>
    rw [hg] at ht
    cases v <;> first | exact ht.elim | exact lv_lload_n F.1 F.2.1 hd hi (zl_at hl hg) (ht ⟨hw.1, zws_cons zwv_long hw.2.1, hw.2.2⟩ hr hnn ad H locs lsA ha hP hD hS hl)
theorem zs_dload (F : CallFix p m c cc nL s args Ts own) {i nx : Nat} (hd : decode cc pc = .ok (.dload i, 2)) (hn : pc + 2 = nx) : zSnd (zConc p l e R s m args below meth c Qf nL D cl dA A ad0 n0) C R' pc (zt_dload i nx) := by
  intro ls st h n cu su ht hw hr hnn ad H locs lsA ha hP hD hS hl
  subst hn
  unfold zt_dload at ht
  cases hg : zget ls i with
  | none => rw [hg] at ht; exact ht.elim
  | some v =>
    rw [hg] at ht
    cases v <;> first | exact ht.elim | exact lv_dload F.1 F.2.1 hd (zl_at hl hg) (ht ⟨hw.1, zws_cons zwv_double hw.2.1, hw.2.2⟩ hr hnn ad H locs lsA ha hP hD hS hl)
-- stores
theorem zs_istore (F : CallFix p m c cc nL s args Ts own) {i nx : Nat} (hd : decode cc pc = .ok (.istore i, 2)) (hi : i < nL) (hn : pc + 2 = nx) : zSnd (zConc p l e R s m args below meth c Qf nL D cl dA A ad0 n0) C R' pc (zt_istore i nx) := by
  intro ls st h n cu su ht hw hr hnn ad H locs lsA ha hP hD hS hl
  subst hn
  match st, ht, hw with
  | .int x :: st, ht, hw =>
    unfold zt_istore at ht
    cases hk : zok ls i with
    | false => simp only [hk] at ht
    | true =>
      simp only [hk] at ht
      exact lv_istore F.1 F.2.1 hd hl hi rfl fun ls' hl' => ht ⟨zwl_set hw.1 zwv_int, zws_tl hw.2.1, hw.2.2⟩ hr hnn ad H locs ls' ha hP hD hS (zl_store1 (v := .int x) hk hl')
theorem zs_istore_n (F : CallFix p m c cc nL s args Ts own) {k : Fin 4} {i nx : Nat} (hd : decode cc pc = .ok (.istore_n k, 1)) (he : (k : Nat) = i) (hi : i < nL) (hn : pc + 1 = nx) : zSnd (zConc p l e R s m args below meth c Qf nL D cl dA A ad0 n0) C R' pc (zt_istore i nx) := by
  intro ls st h n cu su ht hw hr hnn ad H locs lsA ha hP hD hS hl
  subst hn
  match st, ht, hw with
  | .int x :: st, ht, hw =>
    unfold zt_istore at ht
    cases hk : zok ls i with
    | false => simp only [hk] at ht
    | true =>
      simp only [hk] at ht
      exact lv_istore_n F.1 F.2.1 hd he hl hi rfl fun ls' hl' => ht ⟨zwl_set hw.1 zwv_int, zws_tl hw.2.1, hw.2.2⟩ hr hnn ad H locs ls' ha hP hD hS (zl_store1 (v := .int x) hk hl')
theorem zs_astore (F : CallFix p m c cc nL s args Ts own) {i nx : Nat} (hd : decode cc pc = .ok (.astore i, 2)) (hi : i < nL) (hn : pc + 2 = nx) : zSnd (zConc p l e R s m args below meth c Qf nL D cl dA A ad0 n0) C R' pc (zt_astore i nx) := by
  intro ls st h n cu su ht hw hr hnn ad H locs lsA ha hP hD hS hl
  subst hn
  match st, ht, hw with
  | .ref x :: st, ht, hw =>
    unfold zt_astore at ht
    cases hk : zok ls i with
    | false => simp only [hk] at ht
    | true =>
      simp only [hk] at ht
      exact lv_astore F.1 F.2.1 hd hl hi rfl fun ls' hl' => ht ⟨zwl_set hw.1 (zws_hd hw.2.1), zws_tl hw.2.1, hw.2.2⟩ hr hnn ad H locs ls' ha hP hD hS (zl_store1 (v := .ref x) hk hl')
theorem zs_astore_n (F : CallFix p m c cc nL s args Ts own) {k : Fin 4} {i nx : Nat} (hd : decode cc pc = .ok (.astore_n k, 1)) (he : (k : Nat) = i) (hi : i < nL) (hn : pc + 1 = nx) : zSnd (zConc p l e R s m args below meth c Qf nL D cl dA A ad0 n0) C R' pc (zt_astore i nx) := by
  intro ls st h n cu su ht hw hr hnn ad H locs lsA ha hP hD hS hl
  subst hn
  match st, ht, hw with
  | .ref x :: st, ht, hw =>
    unfold zt_astore at ht
    cases hk : zok ls i with
    | false => simp only [hk] at ht
    | true =>
      simp only [hk] at ht
      exact lv_astore_n F.1 F.2.1 hd he hl hi rfl fun ls' hl' => ht ⟨zwl_set hw.1 (zws_hd hw.2.1), zws_tl hw.2.1, hw.2.2⟩ hr hnn ad H locs ls' ha hP hD hS (zl_store1 (v := .ref x) hk hl')
theorem zs_lstore_n (F : CallFix p m c cc nL s args Ts own) {k : Fin 4} {i nx : Nat} (hd : decode cc pc = .ok (.lstore_n k, 1)) (he : (k : Nat) = i) (hi : i + 1 < nL) (hn : pc + 1 = nx) : zSnd (zConc p l e R s m args below meth c Qf nL D cl dA A ad0 n0) C R' pc (zt_lstore i nx) := by
  intro ls st h n cu su ht hw hr hnn ad H locs lsA ha hP hD hS hl
  subst hn
  match st, ht, hw with
  | .long x :: st, ht, hw =>
    unfold zt_lstore at ht
    cases hk : zok ls i with
    | false => simp only [hk] at ht
    | true =>
      simp only [hk] at ht
      exact lv_lstore_n F.1 F.2.1 hd he hl hi rfl fun ls' hl' => ht ⟨zwl_clr (zwl_set hw.1 zwv_long), zws_tl hw.2.1, hw.2.2⟩ hr hnn ad H locs ls' ha hP hD hS (zl_store2 (v := .long x) hk hl')
theorem zs_dstore (F : CallFix p m c cc nL s args Ts own) {i nx : Nat} (hd : decode cc pc = .ok (.dstore i, 2)) (hi : i + 1 < nL) (hn : pc + 2 = nx) : zSnd (zConc p l e R s m args below meth c Qf nL D cl dA A ad0 n0) C R' pc (zt_dstore i nx) := by
  intro ls st h n cu su ht hw hr hnn ad H locs lsA ha hP hD hS hl
  subst hn
  match st, ht, hw with
  | .double x :: st, ht, hw =>
    unfold zt_dstore at ht
    cases hk : zok ls i with
    | false => simp only [hk] at ht
    | true =>
      simp only [hk] at ht
      exact lv_dstore F.1 F.2.1 hd hl hi rfl fun ls' hl' => ht ⟨zwl_clr (zwl_set hw.1 zwv_double), zws_tl hw.2.1, hw.2.2⟩ hr hnn ad H locs ls' ha hP hD hS (zl_store2 (v := .double x) hk hl')
theorem zs_iinc (F : CallFix p m c cc nL s args Ts own) {i nx : Nat} {k : Int} (hd : decode cc pc = .ok (.iinc i k, 3)) (hi : i < nL) (hn : pc + 3 = nx) : zSnd (zConc p l e R s m args below meth c Qf nL D cl dA A ad0 n0) C R' pc (zt_iinc i k nx) := by
  intro ls st h n cu su ht hw hr hnn ad H locs lsA ha hP hD hS hl
  subst hn
  unfold zt_iinc at ht
  cases hg : zget ls i with
  | none => rw [hg] at ht; exact ht.elim
  | some v =>
    rw [hg] at ht
    cases v with
    | int x =>
      cases hk : zok ls i with
      | false => simp only [hk] at ht
      | true =>
        simp only [hk] at ht
        obtain ⟨k9, hk9⟩ := List.getElem?_of_mem ((zlv_mem 0 (0 + i, zv ad (.int x))).mpr ⟨i, .int x, hg, rfl⟩)
        rw [Nat.zero_add] at hk9
        exact lv_iinc F.1 F.2.1 hd hl hk9 rfl hi rfl fun ls' hl' => ht ⟨zwl_set hw.1 zwv_int, hw.2.1, hw.2.2⟩ hr hnn ad H locs ls' ha hP hD hS (zl_store1 (v := .int (x + Int32.ofInt k)) hk hl')
    | _ => exact ht.elim
-- constants
theorem zs_iconst (F : CallFix p m c cc nL s args Ts own) {k : Int} {v : Int32} {nx : Nat} (hd : decode cc pc = .ok (.iconst k, 1)) (hv : Int32.ofInt k = v) (hn : pc + 1 = nx) : zSnd (zConc p l e R s m args below meth c Qf nL D cl dA A ad0 n0) C R' pc (zt_iconst v nx) := by
  intro ls st h n cu su ht hw hr hnn ad H locs lsA ha hP hD hS hl
  subst hn
  exact lv_iconst F.1 F.2.1 hd hv (ht ⟨hw.1, zws_cons zwv_int hw.2.1, hw.2.2⟩ hr hnn ad H locs lsA ha hP hD hS hl)
theorem zs_bipush (F : CallFix p m c cc nL s args Ts own) {k : Int} {v : Int32} {nx : Nat} (hd : decode cc pc = .ok (.bipush k, 2)) (hv : (Int8.ofInt k).toInt32 = v) (hn : pc + 2 = nx) : zSnd (zConc p l e R s m args below meth c Qf nL D cl dA A ad0 n0) C R' pc (zt_iconst v nx) := by
  intro ls st h n cu su ht hw hr hnn ad H locs lsA ha hP hD hS hl
  subst hn
  exact lv_bipush F.1 F.2.1 hd hv (ht ⟨hw.1, zws_cons zwv_int hw.2.1, hw.2.2⟩ hr hnn ad H locs lsA ha hP hD hS hl)
theorem zs_sipush (F : CallFix p m c cc nL s args Ts own) {k : Int} {v : Int32} {nx : Nat} (hd : decode cc pc = .ok (.sipush k, 3)) (hv : (Int16.ofInt k).toInt32 = v) (hn : pc + 3 = nx) : zSnd (zConc p l e R s m args below meth c Qf nL D cl dA A ad0 n0) C R' pc (zt_iconst v nx) := by
  intro ls st h n cu su ht hw hr hnn ad H locs lsA ha hP hD hS hl
  subst hn
  exact lv_sipush F.1 F.2.1 hd hv (ht ⟨hw.1, zws_cons zwv_int hw.2.1, hw.2.2⟩ hr hnn ad H locs lsA ha hP hD hS hl)
theorem zs_ldc2 (F : CallFix p m c cc nL s args Ts own) {index nx : Nat} {v : Int64} (hc : Jvm.Cond.constantLong own index v ∈ Ts) (hd : decode cc pc = .ok (.ldc2_w index, 3)) (hn : pc + 3 = nx) : zSnd (zConc p l e R s m args below meth c Qf nL D cl dA A ad0 n0) C R' pc (zt_lconst v nx) := by
  intro ls st h n cu su ht hw hr hnn ad H locs lsA ha hP hD hS hl
  subst hn
  exact lv_ldc2 F.1 F.2.1 F.2.2.2.1 (F.2.2.2.2 _ hc) hd (ht ⟨hw.1, zws_cons zwv_long hw.2.1, hw.2.2⟩ hr hnn ad H locs lsA ha hP hD hS hl)
theorem zs_dconst0 (F : CallFix p m c cc nL s args Ts own) {nx : Nat} (hd : decode cc pc = .ok (.dconst 0, 1)) (hn : pc + 1 = nx) : zSnd (zConc p l e R s m args below meth c Qf nL D cl dA A ad0 n0) C R' pc (zt_dconst FP.dconst0 nx) := by
  intro ls st h n cu su ht hw hr hnn ad H locs lsA ha hP hD hS hl
  subst hn
  exact lv_dconst0 F.1 F.2.1 hd (ht ⟨hw.1, zws_cons zwv_double hw.2.1, hw.2.2⟩ hr hnn ad H locs lsA ha hP hD hS hl)
theorem zs_dconst1 (F : CallFix p m c cc nL s args Ts own) {nx : Nat} (hd : decode cc pc = .ok (.dconst 1, 1)) (hn : pc + 1 = nx) : zSnd (zConc p l e R s m args below meth c Qf nL D cl dA A ad0 n0) C R' pc (zt_dconst FP.dconst1 nx) := by
  intro ls st h n cu su ht hw hr hnn ad H locs lsA ha hP hD hS hl
  subst hn
  exact lv_dconst1 F.1 F.2.1 hd (ht ⟨hw.1, zws_cons zwv_double hw.2.1, hw.2.2⟩ hr hnn ad H locs lsA ha hP hD hS hl)
theorem zs_null (F : CallFix p m c cc nL s args Ts own) {nx : Nat} (hd : decode cc pc = .ok (.aconst_null, 1)) (hn : pc + 1 = nx) : zSnd (zConc p l e R s m args below meth c Qf nL D cl dA A ad0 n0) C R' pc (zt_null nx) := by
  intro ls st h n cu su ht hw hr hnn ad H locs lsA ha hP hD hS hl
  subst hn
  exact lv_null F.1 F.2.1 hd (ht ⟨hw.1, zws_cons zwv_null hw.2.1, hw.2.2⟩ hr hnn ad H locs lsA ha hP hD hS hl)
end ZSound
end
section
/-! arithmetic, branches, cells -/
section ZSound
variable {p : Program} {l : Launch} {e : Env} {R : Room} {s : State} {m : MethodId} {args : Array Value} {below : List Frame} {meth : Method} {c : Code} {Qf : State → Prop}
variable {cc : ByteArray} {nL : Nat} {Ts : List Cond} {own SC : String} {D : va_G} {cl : List vw_C} {dA : Nat → ClassId} {A : Nat → Prop} {ad0 : Nat → Nat} {n0 : Nat}
variable {C : zK} {R' : zQ} {pc : Nat}

theorem zs_iadd (F : CallFix p m c cc nL s args Ts own) {nx : Nat} (hd : decode cc pc = .ok (.iadd, 1)) (hn : pc + 1 = nx) : zSnd (zConc p l e R s m args below meth c Qf nL D cl dA A ad0 n0) C R' pc (zt_iadd nx) := by
  intro ls st h n cu su ht hw hr hnn ad H locs lsA ha hP hD hS hl
  subst hn
  match st, ht, hw with
  | .int b :: .int a :: st, ht, hw => exact lv_iadd F.1 F.2.1 hd (ht ⟨hw.1, zws_cons zwv_int (zws_tl (zws_tl hw.2.1)), hw.2.2⟩ hr hnn ad H locs lsA ha hP hD hS hl)
theorem zs_isub (F : CallFix p m c cc nL s args Ts own) {nx : Nat} (hd : decode cc pc = .ok (.isub, 1)) (hn : pc + 1 = nx) : zSnd (zConc p l e R s m args below meth c Qf nL D cl dA A ad0 n0) C R' pc (zt_isub nx) := by
  intro ls st h n cu su ht hw hr hnn ad H locs lsA ha hP hD hS hl
  subst hn
  match st, ht, hw with
  | .int b :: .int a :: st, ht, hw => exact lv_isub F.1 F.2.1 hd (ht ⟨hw.1, zws_cons zwv_int (zws_tl (zws_tl hw.2.1)), hw.2.2⟩ hr hnn ad H locs lsA ha hP hD hS hl)
theorem zs_imul (F : CallFix p m c cc nL s args Ts own) {nx : Nat} (hd : decode cc pc = .ok (.imul, 1)) (hn : pc + 1 = nx) : zSnd (zConc p l e R s m args below meth c Qf nL D cl dA A ad0 n0) C R' pc (zt_imul nx) := by
  intro ls st h n cu su ht hw hr hnn ad H locs lsA ha hP hD hS hl
  subst hn
  match st, ht, hw with
  | .int b :: .int a :: st, ht, hw => exact lv_imul F.1 F.2.1 hd (ht ⟨hw.1, zws_cons zwv_int (zws_tl (zws_tl hw.2.1)), hw.2.2⟩ hr hnn ad H locs lsA ha hP hD hS hl)
theorem zs_iand (F : CallFix p m c cc nL s args Ts own) {nx : Nat} (hd : decode cc pc = .ok (.iand, 1)) (hn : pc + 1 = nx) : zSnd (zConc p l e R s m args below meth c Qf nL D cl dA A ad0 n0) C R' pc (zt_iand nx) := by
  intro ls st h n cu su ht hw hr hnn ad H locs lsA ha hP hD hS hl
  subst hn
  match st, ht, hw with
  | .int b :: .int a :: st, ht, hw => exact lv_iand F.1 F.2.1 hd (ht ⟨hw.1, zws_cons zwv_int (zws_tl (zws_tl hw.2.1)), hw.2.2⟩ hr hnn ad H locs lsA ha hP hD hS hl)
theorem zs_ladd (F : CallFix p m c cc nL s args Ts own) {nx : Nat} (hd : decode cc pc = .ok (.ladd, 1)) (hn : pc + 1 = nx) : zSnd (zConc p l e R s m args below meth c Qf nL D cl dA A ad0 n0) C R' pc (zt_ladd nx) := by
  intro ls st h n cu su ht hw hr hnn ad H locs lsA ha hP hD hS hl
  subst hn
  match st, ht, hw with
  | .long b :: .long a :: st, ht, hw => exact lv_ladd F.1 F.2.1 hd (ht ⟨hw.1, zws_cons zwv_long (zws_tl (zws_tl hw.2.1)), hw.2.2⟩ hr hnn ad H locs lsA ha hP hD hS hl)
theorem zs_lmul (F : CallFix p m c cc nL s args Ts own) {nx : Nat} (hd : decode cc pc = .ok (.lmul, 1)) (hn : pc + 1 = nx) : zSnd (zConc p l e R s m args below meth c Qf nL D cl dA A ad0 n0) C R' pc (zt_lmul nx) := by
  intro ls st h n cu su ht hw hr hnn ad H locs lsA ha hP hD hS hl
  subst hn
  match st, ht, hw with
  | .long b :: .long a :: st, ht, hw => exact lv_lmul F.1 F.2.1 hd (ht ⟨hw.1, zws_cons zwv_long (zws_tl (zws_tl hw.2.1)), hw.2.2⟩ hr hnn ad H locs lsA ha hP hD hS hl)
theorem zs_i2l (F : CallFix p m c cc nL s args Ts own) {nx : Nat} (hd : decode cc pc = .ok (.i2l, 1)) (hn : pc + 1 = nx) : zSnd (zConc p l e R s m args below meth c Qf nL D cl dA A ad0 n0) C R' pc (zt_i2l nx) := by
  intro ls st h n cu su ht hw hr hnn ad H locs lsA ha hP hD hS hl
  subst hn
  match st, ht, hw with
  | .int a :: st, ht, hw => exact lv_i2l F.1 F.2.1 hd rfl (ht ⟨hw.1, zws_cons zwv_long (zws_tl hw.2.1), hw.2.2⟩ hr hnn ad H locs lsA ha hP hD hS hl)
theorem zs_i2d (F : CallFix p m c cc nL s args Ts own) {nx : Nat} (hd : decode cc pc = .ok (.i2d, 1)) (hn : pc + 1 = nx) : zSnd (zConc p l e R s m args below meth c Qf nL D cl dA A ad0 n0) C R' pc (zt_i2d nx) := by
  intro ls st h n cu su ht hw hr hnn ad H locs lsA ha hP hD hS hl
  subst hn
  match st, ht, hw with
  | .int a :: st, ht, hw => exact lv_i2d F.1 F.2.1 hd (ht ⟨hw.1, zws_cons zwv_double (zws_tl hw.2.1), hw.2.2⟩ hr hnn ad H locs lsA ha hP hD hS hl)
theorem zs_ddiv (F : CallFix p m c cc nL s args Ts own) {nx : Nat} (hd : decode cc pc = .ok (.ddiv, 1)) (hn : pc + 1 = nx) : zSnd (zConc p l e R s m args below meth c Qf nL D cl dA A ad0 n0) C R' pc (zt_ddiv nx) := by
  intro ls st h n cu su ht hw hr hnn ad H locs lsA ha hP hD hS hl
  subst hn
  match st, ht, hw with
  | .double b :: .double a :: st, ht, hw => exact lv_ddiv F.1 F.2.1 hd ht.1 (ht.2 ⟨hw.1, zws_cons zwv_double (zws_tl (zws_tl hw.2.1)), hw.2.2⟩ hr hnn ad H locs lsA ha hP hD hS hl)
theorem zs_dcmp (F : CallFix p m c cc nL s args Ts own) {op : CmpOp} {nx : Nat} (hd : decode cc pc = .ok (.dcmp op, 1)) (hn : pc + 1 = nx) : zSnd (zConc p l e R s m args below meth c Qf nL D cl dA A ad0 n0) C R' pc (zt_dcmp op nx) := by
  intro ls st h n cu su ht hw hr hnn ad H locs lsA ha hP hD hS hl
  subst hn
  match st, ht, hw with
  | .double b :: .double a :: st, ht, hw => exact lv_dcmp F.1 F.2.1 hd (ht ⟨hw.1, zws_cons zwv_int (zws_tl (zws_tl hw.2.1)), hw.2.2⟩ hr hnn ad H locs lsA ha hP hD hS hl)
theorem zs_pop (F : CallFix p m c cc nL s args Ts own) {nx : Nat} (hd : decode cc pc = .ok (.pop, 1)) (hn : pc + 1 = nx) : zSnd (zConc p l e R s m args below meth c Qf nL D cl dA A ad0 n0) C R' pc (zt_pop nx) := by
  intro ls st h n cu su ht hw hr hnn ad H locs lsA ha hP hD hS hl
  subst hn
  match st, ht, hw with
  | .int a :: st, ht, hw => exact lv_pop F.1 F.2.1 hd rfl (ht ⟨hw.1, zws_tl hw.2.1, hw.2.2⟩ hr hnn ad H locs lsA ha hP hD hS hl)
  | .ref a :: st, ht, hw => exact lv_pop F.1 F.2.1 hd rfl (ht ⟨hw.1, zws_tl hw.2.1, hw.2.2⟩ hr hnn ad H locs lsA ha hP hD hS hl)
theorem zs_dup (F : CallFix p m c cc nL s args Ts own) {nx : Nat} (hd : decode cc pc = .ok (.dup, 1)) (hn : pc + 1 = nx) : zSnd (zConc p l e R s m args below meth c Qf nL D cl dA A ad0 n0) C R' pc (zt_dup nx) := by
  intro ls st h n cu su ht hw hr hnn ad H locs lsA ha hP hD hS hl
  subst hn
  match st, ht, hw with
  | .int a :: st, ht, hw => exact lv_dup F.1 F.2.1 hd rfl (ht ⟨hw.1, zws_cons (zws_hd hw.2.1) hw.2.1, hw.2.2⟩ hr hnn ad H locs lsA ha hP hD hS hl)
  | .ref a :: st, ht, hw => exact lv_dup F.1 F.2.1 hd rfl (ht ⟨hw.1, zws_cons (zws_hd hw.2.1) hw.2.1, hw.2.2⟩ hr hnn ad H locs lsA ha hP hD hS hl)
theorem zs_dup2 (F : CallFix p m c cc nL s args Ts own) {nx : Nat} (hd : decode cc pc = .ok (.dup2, 1)) (hn : pc + 1 = nx) : zSnd (zConc p l e R s m args below meth c Qf nL D cl dA A ad0 n0) C R' pc (zt_dup2 nx) := by
  intro ls st h n cu su ht hw hr hnn ad H locs lsA ha hP hD hS hl
  subst hn
  match st, ht, hw with
  | .int b :: .ref a :: st, ht, hw => exact lv_dup2_11 F.1 F.2.1 hd rfl rfl (ht ⟨hw.1, zws_cons zwv_int (zws_cons (zws_hd (zws_tl hw.2.1)) hw.2.1), hw.2.2⟩ hr hnn ad H locs lsA ha hP hD hS hl)
theorem zs_goto (F : CallFix p m c cc nL s args Ts own) {off : Int} {tgt : Nat} {is : List Nat} (hd : decode cc pc = .ok (.goto off, 3)) (hn : (pc : Int) + off = (tgt : Int)) : zSnd (zConc p l e R s m args below meth c Qf nL D cl dA A ad0 n0) C R' pc (zt_goto tgt is) := by
  intro ls st h n cu su ht hw hr hnn ad H locs lsA ha hP hD hS hl
  exact lv_goto F.1 F.2.1 hd hn (ht ⟨fun i v e => hw.1 i v (zget_clrs e), hw.2.1, hw.2.2⟩ hr hnn ad H locs lsA ha hP hD hS (zl_sub hl fun i v e => zget_clrs e))
theorem zs_ifnull (F : CallFix p m c cc nL s args Ts own) {off : Int} {nx : Nat} (hd : decode cc pc = .ok (.ifnull off, 3)) (hn : pc + 3 = nx) : zSnd (zConc p l e R s m args below meth c Qf nL D cl dA A ad0 n0) C R' pc (zt_ifnull nx) := by
  intro ls st h n cu su ht hw hr hnn ad H locs lsA ha hP hD hS hl
  subst hn
  match st, ht, hw with
  | .ref a :: st, ht, hw => exact lv_ifnull F.1 F.2.1 hd (ht ⟨hw.1, zws_tl hw.2.1, hw.2.2⟩ hr hnn ad H locs lsA ha hP hD hS hl)
theorem zs_ifeq (F : CallFix p m c cc nL s args Ts own) {off : Int} {tgt nx : Nat} (hd : decode cc pc = .ok (.ifCond .eq off, 3)) (ht9 : (pc : Int) + off = (tgt : Int)) (hn : pc + 3 = nx) : zSnd (zConc p l e R s m args below meth c Qf nL D cl dA A ad0 n0) C R' pc (zt_ifeq tgt nx) := by
  intro ls st h n cu su ht hw hr hnn ad H locs lsA ha hP hD hS hl
  subst hn
  match st, ht, hw with
  | .int a :: st, ht, hw => exact lv_if_eq F.1 F.2.1 hd ht9 (fun k => ht.1 k ⟨hw.1, zws_tl hw.2.1, hw.2.2⟩ hr hnn ad H locs lsA ha hP hD hS hl) (fun k => ht.2 k ⟨hw.1, zws_tl hw.2.1, hw.2.2⟩ hr hnn ad H locs lsA ha hP hD hS hl)
theorem zs_icmpeq (F : CallFix p m c cc nL s args Ts own) {off : Int} {tgt nx : Nat} (hd : decode cc pc = .ok (.if_icmp .eq off, 3)) (ht9 : (pc : Int) + off = (tgt : Int)) (hn : pc + 3 = nx) : zSnd (zConc p l e R s m args below meth c Qf nL D cl dA A ad0 n0) C R' pc (zt_icmpeq tgt nx) := by
  intro ls st h n cu su ht hw hr hnn ad H locs lsA ha hP hD hS hl
  subst hn
  match st, ht, hw with
  | .int b :: .int a :: st, ht, hw => exact lv_icmp_eq F.1 F.2.1 hd ht9 (fun k => ht.1 k ⟨hw.1, zws_tl (zws_tl hw.2.1), hw.2.2⟩ hr hnn ad H locs lsA ha hP hD hS hl) (fun k => ht.2 k ⟨hw.1, zws_tl (zws_tl hw.2.1), hw.2.2⟩ hr hnn ad H locs lsA ha hP hD hS hl)
theorem zs_ifne (F : CallFix p m c cc nL s args Ts own) {off : Int} {tgt nx : Nat} (hd : decode cc pc = .ok (.ifCond .ne off, 3)) (ht9 : (pc : Int) + off = (tgt : Int)) (hn : pc + 3 = nx) : zSnd (zConc p l e R s m args below meth c Qf nL D cl dA A ad0 n0) C R' pc (zt_ifne tgt nx) := by
  intro ls st h n cu su ht hw hr hnn ad H locs lsA ha hP hD hS hl
  subst hn
  match st, ht, hw with
  | .int a :: st, ht, hw => exact lv_if_ne F.1 F.2.1 hd ht9 (fun k => ht.1 k ⟨hw.1, zws_tl hw.2.1, hw.2.2⟩ hr hnn ad H locs lsA ha hP hD hS hl) (fun k => ht.2 k ⟨hw.1, zws_tl hw.2.1, hw.2.2⟩ hr hnn ad H locs lsA ha hP hD hS hl)
theorem zs_icmpne (F : CallFix p m c cc nL s args Ts own) {off : Int} {tgt nx : Nat} (hd : decode cc pc = .ok (.if_icmp .ne off, 3)) (ht9 : (pc : Int) + off = (tgt : Int)) (hn : pc + 3 = nx) : zSnd (zConc p l e R s m args below meth c Qf nL D cl dA A ad0 n0) C R' pc (zt_icmpne tgt nx) := by
  intro ls st h n cu su ht hw hr hnn ad H locs lsA ha hP hD hS hl
  subst hn
  match st, ht, hw with
  | .int b :: .int a :: st, ht, hw => exact lv_icmp_ne F.1 F.2.1 hd ht9 (fun k => ht.1 k ⟨hw.1, zws_tl (zws_tl hw.2.1), hw.2.2⟩ hr hnn ad H locs lsA ha hP hD hS hl) (fun k => ht.2 k ⟨hw.1, zws_tl (zws_tl hw.2.1), hw.2.2⟩ hr hnn ad H locs lsA ha hP hD hS hl)
theorem zs_iflt (F : CallFix p m c cc nL s args Ts own) {off : Int} {tgt nx : Nat} (hd : decode cc pc = .ok (.ifCond .lt off, 3)) (ht9 : (pc : Int) + off = (tgt : Int)) (hn : pc + 3 = nx) : zSnd (zConc p l e R s m args below meth c Qf nL D cl dA A ad0 n0) C R' pc (zt_iflt tgt nx) := by
  intro ls st h n cu su ht hw hr hnn ad H locs lsA ha hP hD hS hl
  subst hn
  match st, ht, hw with
  | .int a :: st, ht, hw => exact lv_if_lt F.1 F.2.1 hd ht9 (fun k => ht.1 k ⟨hw.1, zws_tl hw.2.1, hw.2.2⟩ hr hnn ad H locs lsA ha hP hD hS hl) (fun k => ht.2 k ⟨hw.1, zws_tl hw.2.1, hw.2.2⟩ hr hnn ad H locs lsA ha hP hD hS hl)
theorem zs_icmplt (F : CallFix p m c cc nL s args Ts own) {off : Int} {tgt nx : Nat} (hd : decode cc pc = .ok (.if_icmp .lt off, 3)) (ht9 : (pc : Int) + off = (tgt : Int)) (hn : pc + 3 = nx) : zSnd (zConc p l e R s m args below meth c Qf nL D cl dA A ad0 n0) C R' pc (zt_icmplt tgt nx) := by
  intro ls st h n cu su ht hw hr hnn ad H locs lsA ha hP hD hS hl
  subst hn
  match st, ht, hw with
  | .int b :: .int a :: st, ht, hw => exact lv_icmp_lt F.1 F.2.1 hd ht9 (fun k => ht.1 k ⟨hw.1, zws_tl (zws_tl hw.2.1), hw.2.2⟩ hr hnn ad H locs lsA ha hP hD hS hl) (fun k => ht.2 k ⟨hw.1, zws_tl (zws_tl hw.2.1), hw.2.2⟩ hr hnn ad H locs lsA ha hP hD hS hl)
theorem zs_ifle (F : CallFix p m c cc nL s args Ts own) {off : Int} {tgt nx : Nat} (hd : decode cc pc = .ok (.ifCond .le off, 3)) (ht9 : (pc : Int) + off = (tgt : Int)) (hn : pc + 3 = nx) : zSnd (zConc p l e R s m args below meth c Qf nL D cl dA A ad0 n0) C R' pc (zt_ifle tgt nx) := by
  intro ls st h n cu su ht hw hr hnn ad H locs lsA ha hP hD hS hl
  subst hn
  match st, ht, hw with
  | .int a :: st, ht, hw => exact lv_if_le F.1 F.2.1 hd ht9 (fun k => ht.1 k ⟨hw.1, zws_tl hw.2.1, hw.2.2⟩ hr hnn ad H locs lsA ha hP hD hS hl) (fun k => ht.2 k ⟨hw.1, zws_tl hw.2.1, hw.2.2⟩ hr hnn ad H locs lsA ha hP hD hS hl)
theorem zs_icmple (F : CallFix p m c cc nL s args Ts own) {off : Int} {tgt nx : Nat} (hd : decode cc pc = .ok (.if_icmp .le off, 3)) (ht9 : (pc : Int) + off = (tgt : Int)) (hn : pc + 3 = nx) : zSnd (zConc p l e R s m args below meth c Qf nL D cl dA A ad0 n0) C R' pc (zt_icmple tgt nx) := by
  intro ls st h n cu su ht hw hr hnn ad H locs lsA ha hP hD hS hl
  subst hn
  match st, ht, hw with
  | .int b :: .int a :: st, ht, hw => exact lv_icmp_le F.1 F.2.1 hd ht9 (fun k => ht.1 k ⟨hw.1, zws_tl (zws_tl hw.2.1), hw.2.2⟩ hr hnn ad H locs lsA ha hP hD hS hl) (fun k => ht.2 k ⟨hw.1, zws_tl (zws_tl hw.2.1), hw.2.2⟩ hr hnn ad H locs lsA ha hP hD hS hl)
theorem zs_ifgt (F : CallFix p m c cc nL s args Ts own) {off : Int} {tgt nx : Nat} (hd : decode cc pc = .ok (.ifCond .gt off, 3)) (ht9 : (pc : Int) + off = (tgt : Int)) (hn : pc + 3 = nx) : zSnd (zConc p l e R s m args below meth c Qf nL D cl dA A ad0 n0) C R' pc (zt_ifgt tgt nx) := by
  intro ls st h n cu su ht hw hr hnn ad H locs lsA ha hP hD hS hl
  subst hn
  match st, ht, hw with
  | .int a :: st, ht, hw => exact lv_if_gt F.1 F.2.1 hd ht9 (fun k => ht.1 k ⟨hw.1, zws_tl hw.2.1, hw.2.2⟩ hr hnn ad H locs lsA ha hP hD hS hl) (fun k => ht.2 k ⟨hw.1, zws_tl hw.2.1, hw.2.2⟩ hr hnn ad H locs lsA ha hP hD hS hl)
theorem zs_icmpgt (F : CallFix p m c cc nL s args Ts own) {off : Int} {tgt nx : Nat} (hd : decode cc pc = .ok (.if_icmp .gt off, 3)) (ht9 : (pc : Int) + off = (tgt : Int)) (hn : pc + 3 = nx) : zSnd (zConc p l e R s m args below meth c Qf nL D cl dA A ad0 n0) C R' pc (zt_icmpgt tgt nx) := by
  intro ls st h n cu su ht hw hr hnn ad H locs lsA ha hP hD hS hl
  subst hn
  match st, ht, hw with
  | .int b :: .int a :: st, ht, hw => exact lv_icmp_gt F.1 F.2.1 hd ht9 (fun k => ht.1 k ⟨hw.1, zws_tl (zws_tl hw.2.1), hw.2.2⟩ hr hnn ad H locs lsA ha hP hD hS hl) (fun k => ht.2 k ⟨hw.1, zws_tl (zws_tl hw.2.1), hw.2.2⟩ hr hnn ad H locs lsA ha hP hD hS hl)
theorem zs_ifge (F : CallFix p m c cc nL s args Ts own) {off : Int} {tgt nx : Nat} (hd : decode cc pc = .ok (.ifCond .ge off, 3)) (ht9 : (pc : Int) + off = (tgt : Int)) (hn : pc + 3 = nx) : zSnd (zConc p l e R s m args below meth c Qf nL D cl dA A ad0 n0) C R' pc (zt_ifge tgt nx) := by
  intro ls st h n cu su ht hw hr hnn ad H locs lsA ha hP hD hS hl
  subst hn
  match st, ht, hw with
  | .int a :: st, ht, hw => exact lv_if_ge F.1 F.2.1 hd ht9 (fun k => ht.1 k ⟨hw.1, zws_tl hw.2.1, hw.2.2⟩ hr hnn ad H locs lsA ha hP hD hS hl) (fun k => ht.2 k ⟨hw.1, zws_tl hw.2.1, hw.2.2⟩ hr hnn ad H locs lsA ha hP hD hS hl)
theorem zs_icmpge (F : CallFix p m c cc nL s args Ts own) {off : Int} {tgt nx : Nat} (hd : decode cc pc = .ok (.if_icmp .ge off, 3)) (ht9 : (pc : Int) + off = (tgt : Int)) (hn : pc + 3 = nx) : zSnd (zConc p l e R s m args below meth c Qf nL D cl dA A ad0 n0) C R' pc (zt_icmpge tgt nx) := by
  intro ls st h n cu su ht hw hr hnn ad H locs lsA ha hP hD hS hl
  subst hn
  match st, ht, hw with
  | .int b :: .int a :: st, ht, hw => exact lv_icmp_ge F.1 F.2.1 hd ht9 (fun k => ht.1 k ⟨hw.1, zws_tl (zws_tl hw.2.1), hw.2.2⟩ hr hnn ad H locs lsA ha hP hD hS hl) (fun k => ht.2 k ⟨hw.1, zws_tl (zws_tl hw.2.1), hw.2.2⟩ hr hnn ad H locs lsA ha hP hD hS hl)
theorem zs_leq_eq (F : CallFix p m c cc nL s args Ts own) {off : Int} {tgt nx : Nat} (hd : decode cc pc = .ok (.lcmp, 1)) (hd2 : decode cc (pc + 1) = .ok (.ifCond .eq off, 3)) (ht9 : ((pc + 1 : Nat) : Int) + off = (tgt : Int)) (hn : pc + 1 + 3 = nx) : zSnd (zConc p l e R s m args below meth c Qf nL D cl dA A ad0 n0) C R' pc (zt_leq tgt nx) := by
  intro ls st h n cu su ht hw hr hnn ad H locs lsA ha hP hD hS hl
  subst hn
  match st, ht, hw with
  | .long b :: .long a :: st, ht, hw =>
    refine W.lcmp F.1 F.2.1 hd ?_
    have hq : lg_cmp a b = 0 ↔ a = b := by
      unfold lg_cmp
      by_cases h1 : b < a
      · have : ¬ a = b := fun q => by subst q; exact absurd h1 (by simp)
        simp [h1, this]
      · by_cases h2 : a = b
        · simp [h1, h2]
        · simp [h1, h2]
    exact lv_if_eq F.1 F.2.1 hd2 ht9 (fun k => ht.1 (hq.mp k) ⟨hw.1, zws_tl (zws_tl hw.2.1), hw.2.2⟩ hr hnn ad H locs lsA ha hP hD hS hl) (fun k => ht.2 (fun q => k (hq.mpr q)) ⟨hw.1, zws_tl (zws_tl hw.2.1), hw.2.2⟩ hr hnn ad H locs lsA ha hP hD hS hl)
theorem zs_leq_ne (F : CallFix p m c cc nL s args Ts own) {off : Int} {tgt nx : Nat} (hd : decode cc pc = .ok (.lcmp, 1)) (hd2 : decode cc (pc + 1) = .ok (.ifCond .ne off, 3)) (ht9 : ((pc + 1 : Nat) : Int) + off = (tgt : Int)) (hn : pc + 1 + 3 = nx) : zSnd (zConc p l e R s m args below meth c Qf nL D cl dA A ad0 n0) C R' pc (zt_leq nx tgt) := by
  intro ls st h n cu su ht hw hr hnn ad H locs lsA ha hP hD hS hl
  subst hn
  match st, ht, hw with
  | .long b :: .long a :: st, ht, hw =>
    refine W.lcmp F.1 F.2.1 hd ?_
    have hq : lg_cmp a b = 0 ↔ a = b := by
      unfold lg_cmp
      by_cases h1 : b < a
      · have : ¬ a = b := fun q => by subst q; exact absurd h1 (by simp)
        simp [h1, this]
      · by_cases h2 : a = b
        · simp [h1, h2]
        · simp [h1, h2]
    exact lv_if_ne F.1 F.2.1 hd2 ht9 (fun k => ht.2 (fun q => k (hq.mpr q)) ⟨hw.1, zws_tl (zws_tl hw.2.1), hw.2.2⟩ hr hnn ad H locs lsA ha hP hD hS hl) (fun k => ht.1 (hq.mp k) ⟨hw.1, zws_tl (zws_tl hw.2.1), hw.2.2⟩ hr hnn ad H locs lsA ha hP hD hS hl)
theorem zs_iald (F : CallFix p m c cc nL s args Ts own) (hK : va_K D cl (zTys dA SC) s) {nx : Nat} (hd : decode cc pc = .ok (.iaload, 1)) (hn : pc + 1 = nx) : zSnd (zConc p l e R s m args below meth c Qf nL D cl dA A ad0 n0) C R' pc (zt_iald nx) := by
  intro ls st h n cu su ht hw hr hnn ad H locs lsA ha hP hD hS hl
  subst hn
  match st, ht, hw with
  | .int i :: .ref a :: st, ht, hw =>
    obtain ⟨k, f, h1, h2, h3⟩ := ht
    have hg := zW_get (dA := dA) (ad := ad) (h := h) (zws_ref (zws_tl hw.2.1))
    rw [h1] at hg
    exact va_iald F.1 F.2.1 hK hP a 0 hg rfl h2 hd (h3 ⟨hw.1, zws_cons zwv_int (zws_tl (zws_tl hw.2.1)), hw.2.2⟩ hr hnn ad H locs lsA ha hP hD hS hl)
theorem zs_zald (F : CallFix p m c cc nL s args Ts own) (hK : va_K D cl (zTys dA SC) s) {nx : Nat} (hd : decode cc pc = .ok (.baload, 1)) (hn : pc + 1 = nx) : zSnd (zConc p l e R s m args below meth c Qf nL D cl dA A ad0 n0) C R' pc (zt_zald nx) := by
  intro ls st h n cu su ht hw hr hnn ad H locs lsA ha hP hD hS hl
  subst hn
  match st, ht, hw with
  | .int i :: .ref a :: st, ht, hw =>
    obtain ⟨k, f, h1, h2, h3⟩ := ht
    have hg := zW_get (dA := dA) (ad := ad) (h := h) (zws_ref (zws_tl hw.2.1))
    rw [h1] at hg
    exact va_zald F.1 F.2.1 hK hP a 1 hg rfl h2 hd (h3 ⟨hw.1, zws_cons zwv_int (zws_tl (zws_tl hw.2.1)), hw.2.2⟩ hr hnn ad H locs lsA ha hP hD hS hl)
theorem zs_lald (F : CallFix p m c cc nL s args Ts own) (hK : va_K D cl (zTys dA SC) s) {nx : Nat} (hd : decode cc pc = .ok (.laload, 1)) (hn : pc + 1 = nx) : zSnd (zConc p l e R s m args below meth c Qf nL D cl dA A ad0 n0) C R' pc (zt_lald nx) := by
  intro ls st h n cu su ht hw hr hnn ad H locs lsA ha hP hD hS hl
  subst hn
  match st, ht, hw with
  | .int i :: .ref a :: st, ht, hw =>
    obtain ⟨k, f, h1, h2, h3⟩ := ht
    have hg := zW_get (dA := dA) (ad := ad) (h := h) (zws_ref (zws_tl hw.2.1))
    rw [h1] at hg
    exact va_lald F.1 F.2.1 hK hP a 2 hg rfl h2 hd (h3 ⟨hw.1, zws_cons zwv_long (zws_tl (zws_tl hw.2.1)), hw.2.2⟩ hr hnn ad H locs lsA ha hP hD hS hl)
theorem zs_dald (F : CallFix p m c cc nL s args Ts own) (hK : va_K D cl (zTys dA SC) s) {nx : Nat} (hd : decode cc pc = .ok (.daload, 1)) (hn : pc + 1 = nx) : zSnd (zConc p l e R s m args below meth c Qf nL D cl dA A ad0 n0) C R' pc (zt_dald nx) := by
  intro ls st h n cu su ht hw hr hnn ad H locs lsA ha hP hD hS hl
  subst hn
  match st, ht, hw with
  | .int i :: .ref a :: st, ht, hw =>
    obtain ⟨k, f, h1, h2, h3⟩ := ht
    have hg := zW_get (dA := dA) (ad := ad) (h := h) (zws_ref (zws_tl hw.2.1))
    rw [h1] at hg
    exact va_dald F.1 F.2.1 hK hP a 3 hg rfl h2 hd (h3 ⟨hw.1, zws_cons zwv_double (zws_tl (zws_tl hw.2.1)), hw.2.2⟩ hr hnn ad H locs lsA ha hP hD hS hl)
theorem zs_aald (F : CallFix p m c cc nL s args Ts own) (hK : va_K D cl (zTys dA SC) s) {nx : Nat} (hd : decode cc pc = .ok (.aaload, 1)) (hn : pc + 1 = nx) : zSnd (zConc p l e R s m args below meth c Qf nL D cl dA A ad0 n0) C R' pc (zt_aald nx) := by
  intro ls st h n cu su ht hw hr hnn ad H locs lsA ha hP hD hS hl
  subst hn
  match st, ht, hw with
  | .int i :: .ref a :: st, ht, hw =>
    obtain ⟨k, f, h1, h2, h3⟩ := ht
    have hal := zws_ref (zws_tl hw.2.1)
    have hg := zW_get (dA := dA) (ad := ad) (h := h) hal
    rw [h1] at hg
    have hwa := hw.2.2 a hal
    rw [h1] at hwa
    have hwv : zwv n (va_rf (f i.toNatClampNeg)) := by
      cases hf : f i.toNatClampNeg with
      | none => exact zwv_null
      | some b => exact zwv_ref (hwa _ b hf)
    have e9 : zv ad (va_rf (f i.toNatClampNeg)) = va_rf ((f i.toNatClampNeg).map ad) := by cases f i.toNatClampNeg <;> rfl
    have k9 := h3 ⟨hw.1, zws_cons hwv (zws_tl (zws_tl hw.2.1)), hw.2.2⟩ hr hnn ad H locs lsA ha hP hD hS hl
    rw [List.map_cons, e9] at k9
    exact va_aldq F.1 F.2.1 hK hP a 4 hg rfl h2 hd k9
theorem zs_iast (F : CallFix p m c cc nL s args Ts own) (hK : va_K D cl (zTys dA SC) s) {nx : Nat} (hd : decode cc pc = .ok (.iastore, 1)) (hn : pc + 1 = nx) : zSnd (zConc p l e R s m args below meth c Qf nL D cl dA A ad0 n0) C R' pc (zt_iast nx) := by
  intro ls st h n cu su ht hw hr hnn ad H locs lsA ha hP hD hS hl
  subst hn
  match st, ht, hw with
  | .int x :: .int i :: .ref a :: st, ht, hw =>
    obtain ⟨k, f, h1, h2, h3⟩ := ht
    have hg := zW_get (dA := dA) (ad := ad) (h := h) (zws_ref (zws_tl (zws_tl hw.2.1)))
    rw [h1] at hg
    refine va_iast F.1 F.2.1 hK hP hD hS a 0 hg rfl h2 hd fun H1 locs1 hP1 hD1 hS1 => ?_
    have e9 := zW_set (dA := dA) (ad := ad) (h := h) (n := n) (a := a) (c := .inl (0, k, .inl (upd f i.toNatClampNeg x)))
    exact h3 ⟨hw.1, zws_tl (zws_tl (zws_tl hw.2.1)), zwh_set hw.2.2 trivial⟩ hr hnn ad H1 locs1 lsA ha (e9 ▸ hP1) (e9 ▸ hD1) hS1 hl
theorem zs_zast (F : CallFix p m c cc nL s args Ts own) (hK : va_K D cl (zTys dA SC) s) {nx : Nat} (hd : decode cc pc = .ok (.bastore, 1)) (hn : pc + 1 = nx) : zSnd (zConc p l e R s m args below meth c Qf nL D cl dA A ad0 n0) C R' pc (zt_zast nx) := by
  intro ls st h n cu su ht hw hr hnn ad H locs lsA ha hP hD hS hl
  subst hn
  match st, ht, hw with
  | .int x :: .int i :: .ref a :: st, ht, hw =>
    obtain ⟨k, f, h1, h2, h3⟩ := ht
    have hg := zW_get (dA := dA) (ad := ad) (h := h) (zws_ref (zws_tl (zws_tl hw.2.1)))
    rw [h1] at hg
    refine va_zast F.1 F.2.1 hK hP hD hS a 1 hg rfl h2 hd fun H1 locs1 hP1 hD1 hS1 => ?_
    have e9 := zW_set (dA := dA) (ad := ad) (h := h) (n := n) (a := a) (c := .inl (1, k, .inl (upd f i.toNatClampNeg (vp_nar .boolean x))))
    exact h3 ⟨hw.1, zws_tl (zws_tl (zws_tl hw.2.1)), zwh_set hw.2.2 trivial⟩ hr hnn ad H1 locs1 lsA ha (e9 ▸ hP1) (e9 ▸ hD1) hS1 hl
theorem zs_last (F : CallFix p m c cc nL s args Ts own) (hK : va_K D cl (zTys dA SC) s) {nx : Nat} (hd : decode cc pc = .ok (.lastore, 1)) (hn : pc + 1 = nx) : zSnd (zConc p l e R s m args below meth c Qf nL D cl dA A ad0 n0) C R' pc (zt_last nx) := by
  intro ls st h n cu su ht hw hr hnn ad H locs lsA ha hP hD hS hl
  subst hn
  match st, ht, hw with
  | .long x :: .int i :: .ref a :: st, ht, hw =>
    obtain ⟨k, f, h1, h2, h3⟩ := ht
    have hg := zW_get (dA := dA) (ad := ad) (h := h) (zws_ref (zws_tl (zws_tl hw.2.1)))
    rw [h1] at hg
    refine va_last F.1 F.2.1 hK hP hD hS a 2 hg rfl h2 hd fun H1 locs1 hP1 hD1 hS1 => ?_
    have e9 := zW_set (dA := dA) (ad := ad) (h := h) (n := n) (a := a) (c := .inl (2, k, .inr (.inl (vp_updL f i.toNatClampNeg x))))
    exact h3 ⟨hw.1, zws_tl (zws_tl (zws_tl hw.2.1)), zwh_set hw.2.2 trivial⟩ hr hnn ad H1 locs1 lsA ha (e9 ▸ hP1) (e9 ▸ hD1) hS1 hl
theorem zs_dast (F : CallFix p m c cc nL s args Ts own) (hK : va_K D cl (zTys dA SC) s) {nx : Nat} (hd : decode cc pc = .ok (.dastore, 1)) (hn : pc + 1 = nx) : zSnd (zConc p l e R s m args below meth c Qf nL D cl dA A ad0 n0) C R' pc (zt_dast nx) := by
  intro ls st h n cu su ht hw hr hnn ad H locs lsA ha hP hD hS hl
  subst hn
  match st, ht, hw with
  | .double x :: .int i :: .ref a :: st, ht, hw =>
    obtain ⟨k, f, h1, h2, h3⟩ := ht
    have hg := zW_get (dA := dA) (ad := ad) (h := h) (zws_ref (zws_tl (zws_tl hw.2.1)))
    rw [h1] at hg
    refine va_dast F.1 F.2.1 hK hP hD hS a 3 hg rfl h2 hd fun H1 locs1 hP1 hD1 hS1 => ?_
    have e9 := zW_set (dA := dA) (ad := ad) (h := h) (n := n) (a := a) (c := .inl (3, k, .inr (.inr (.inr (.inl (vf_upd f i.toNatClampNeg x))))))
    exact h3 ⟨hw.1, zws_tl (zws_tl (zws_tl hw.2.1)), zwh_set hw.2.2 trivial⟩ hr hnn ad H1 locs1 lsA ha (e9 ▸ hP1) (e9 ▸ hD1) hS1 hl
theorem zs_aast (F : CallFix p m c cc nL s args Ts own) (hK : va_K D cl (zTys dA SC) s) {ci nx : Nat} {T : u_T} {N : Nat} (hc : cl[ci]? = some (SC, T, N)) (hd : decode cc pc = .ok (.aastore, 1)) (hn : pc + 1 = nx) : zSnd (zConc p l e R s m args below meth c Qf nL D cl dA A ad0 n0) C R' pc (zt_aast ci nx) := by
  intro ls st h n cu su ht hw hr hnn ad H locs lsA ha hP hD hS hl
  subst hn
  match st, ht, hw with
  | .ref v :: .int i :: .ref a :: st, ht, hw =>
    obtain ⟨k, f, h1, ⟨fs, hv⟩, h2, h3⟩ := ht
    have hal := zws_ref (zws_tl (zws_tl hw.2.1))
    have hg := zW_get (dA := dA) (ad := ad) (h := h) hal
    rw [h1] at hg
    have hgv := zW_get (dA := dA) (ad := ad) (h := h) (zws_ref hw.2.1)
    rw [hv] at hgv
    have hwa := hw.2.2 a hal
    rw [h1] at hwa
    refine va_astq F.1 F.2.1 hK hP hD hS a 4 v ci hg rfl hgv hc h2 hd fun H1 locs1 hP1 hD1 hS1 => ?_
    have e9 := zW_set (dA := dA) (ad := ad) (h := h) (n := n) (a := a) (c := .inl (4, k, .inr (.inr (.inr (.inr (va_up f i.toNatClampNeg (some v)))))))
    have e8 : (fun j => (va_up f i.toNatClampNeg (some v) j).map ad) = va_up (fun j => (f j).map ad) i.toNatClampNeg (some (ad v)) := by
      funext j
      unfold va_up
      split <;> rfl
    have e7 : zcell ad dA (.inl (4, k, .inr (.inr (.inr (.inr (va_up f i.toNatClampNeg (some v))))))) = .inl (dA 4, k, .inr (.inr (.inr (.inr (va_up (fun j => (f j).map ad) i.toNatClampNeg (some (ad v))))))) := by
      show Sum.inl (dA 4, k, Sum.inr (Sum.inr (Sum.inr (Sum.inr (fun j => (va_up f i.toNatClampNeg (some v) j).map ad))))) = _
      rw [e8]
    rw [e7] at e9
    refine h3 ⟨hw.1, zws_tl (zws_tl (zws_tl hw.2.1)), zwh_set hw.2.2 fun j b hb => ?_⟩ hr hnn ad H1 locs1 lsA ha (e9 ▸ hP1) (e9 ▸ hD1) hS1 hl
    unfold va_up at hb
    split at hb
    · cases hb; exact zws_ref hw.2.1
    · exact hwa j b hb
theorem zs_alen (F : CallFix p m c cc nL s args Ts own) (hK : va_K D cl (zTys dA SC) s) {nx : Nat} (hd : decode cc pc = .ok (.arraylength, 1)) (hn : pc + 1 = nx) : zSnd (zConc p l e R s m args below meth c Qf nL D cl dA A ad0 n0) C R' pc (zt_alen nx) := by
  intro ls st h n cu su ht hw hr hnn ad H locs lsA ha hP hD hS hl
  subst hn
  match st, ht, hw with
  | .ref a :: st, ht, hw =>
    obtain ⟨t, x, h1, h2, h3⟩ := ht
    have hg := zW_get (dA := dA) (ad := ad) (h := h) (zws_ref hw.2.1)
    rw [h1] at hg
    have e9 : (zarr ad x).1 = x.1 := by
      obtain ⟨z, f | f | f | f | f⟩ := x <;> rfl
    have k9 := h3 ⟨hw.1, zws_cons zwv_int (zws_tl hw.2.1), hw.2.2⟩ hr hnn ad H locs lsA ha hP hD hS hl
    match t, h2, hg with
    | 0, _, hg => exact va_alen F.1 F.2.1 hK hP a 0 hg rfl (by rw [e9]) hd k9
    | 1, _, hg => exact va_alen F.1 F.2.1 hK hP a 1 hg rfl (by rw [e9]) hd k9
    | 2, _, hg => exact va_alen F.1 F.2.1 hK hP a 2 hg rfl (by rw [e9]) hd k9
    | 3, _, hg => exact va_alen F.1 F.2.1 hK hP a 3 hg rfl (by rw [e9]) hd k9
    | 4, _, hg => exact va_alen F.1 F.2.1 hK hP a 4 hg rfl (by rw [e9]) hd k9
theorem zs_getf (F : CallFix p m c cc nL s args Ts own) (hK : va_K D cl (zTys dA SC) s) {ci k nx index N : Nat} {Cn ref : String} {T : u_T} (hin : ∀ w ∈ u_ws Cn T N, w ∈ Ts) (hc : cl[ci]? = some (Cn, T, N)) (hk : k < N) (hlink : Cond.fieldLink own index ref (T k).2.1 (T k).2.2.1 ∈ Ts) (href : (T k).1 = ref) (hd : decode cc pc = .ok (.getfield index, 3)) (hn : pc + 3 = nx) : zSnd (zConc p l e R s m args below meth c Qf nL D cl dA A ad0 n0) C R' pc (zt_getf ci k nx) := by
  intro ls st h n cu su ht hw hr hnn ad H locs lsA ha hP hD hS hl
  subst hn
  match st, ht, hw with
  | .ref b :: st, ht, hw =>
    obtain ⟨fs, h1, v, h2, h3⟩ := ht
    have hbl := zws_ref hw.2.1
    have hg := zW_get (dA := dA) (ad := ad) (h := h) hbl
    rw [h1] at hg
    have hwa := hw.2.2 b hbl
    rw [h1] at hwa
    exact va_get F.1 F.2.1 F.2.2.2.2 hin F.2.2.2.1 hK hP b hg hc k hk (F.2.2.2.2 _ hlink) (fun x h9 => by rw [← href]; exact h9) (by show (fs.map (zv ad))[k]? = _; rw [List.getElem?_map, h2]; rfl) hd (h3 ⟨hw.1, zws_cons (hwa v (List.mem_of_getElem? h2)) (zws_tl hw.2.1), hw.2.2⟩ hr hnn ad H locs lsA ha hP hD hS hl)
theorem zs_fits {ad : Nat → Nat} {ty : FieldType} {v : Value} (h : narrow ty v = v ∧ fits ty v = true) : narrow ty (zv ad v) = zv ad v ∧ fits ty (zv ad v) = true := by
  cases v with
  | ref a =>
    refine ⟨by cases ty <;> rfl, ?_⟩
    cases ty <;> first | rfl | exact h.2
  | _ => exact h
theorem zs_put9 {ad : Nat → Nat} {dA : Nat → ClassId} {h : zH} {n b ci k : Nat} {fs : List Value} {v : Value} : (zW dA ad h n).set b (ad b, .inr (ci, (fs.map (zv ad)).set k (zv ad v))) = zW dA ad (zupd h b (.inr (ci, fs.set k v))) n := by
  rw [← List.map_set]
  exact zW_set (c := .inr (ci, fs.set k v))
theorem zwc_put {n ci k : Nat} {fs : List Value} {v : Value} (h : zwc n (.inr (ci, fs))) (hv : zwv n v) : zwc n (.inr (ci, fs.set k v)) := fun w hw => by
  rcases List.mem_or_eq_of_mem_set hw with h1 | h1
  · exact h w h1
  · rw [h1]; exact hv
theorem zs_putf (F : CallFix p m c cc nL s args Ts own) (hK : va_K D cl (zTys dA SC) s) {ci k nx index N : Nat} {Cn ref : String} {T : u_T} {ty : FieldType} (hin : ∀ w ∈ u_ws Cn T N, w ∈ Ts) (ty0 : Nat → FieldType) (hty : ∀ k, k < N → parseFieldDescriptor (T k).2.2.1 = some (ty0 k)) (hnm : ∀ a, a < N → ∀ b, b < N → a ≠ b → (T a).2.1 ≠ (T b).2.1) (hc : cl[ci]? = some (Cn, T, N)) (hk : k < N) (hlink : Cond.fieldLink own index ref (T k).2.1 (T k).2.2.1 ∈ Ts) (href : (T k).1 = ref) (hfin : (T k).2.2.2 = false) (hd9 : parseFieldDescriptor (T k).2.2.1 = some ty) (hd : decode cc pc = .ok (.putfield index, 3)) (hn : pc + 3 = nx) : zSnd (zConc p l e R s m args below meth c Qf nL D cl dA A ad0 n0) C R' pc (zt_putf ci k ty nx) := by
  intro ls st h n cu su ht hw hr hnn ad H locs lsA ha hP hD hS hl
  subst hn
  match st, ht, hw with
  | v :: .ref b :: st, ht, hw =>
    obtain ⟨fs, h1, h2, h4, h3⟩ := ht
    have hbl := zws_ref (zws_tl hw.2.1)
    have hg := zW_get (dA := dA) (ad := ad) (h := h) hbl
    rw [h1] at hg
    have hwa := hw.2.2 b hbl
    rw [h1] at hwa
    refine va_put F.1 F.2.1 F.2.2.2.2 hin ty0 hty hnm F.2.2.2.1 hK hP hD hS b hg hc k hk (F.2.2.2.2 _ hlink) (fun x h9 => by rw [← href]; exact h9) hfin hd9 (zs_fits h4).1 (zs_fits h4).2 (by rw [List.length_map]; exact h2) hd fun H1 locs1 hP1 hD1 hS1 => ?_
    rw [zs_put9] at hP1 hD1
    exact h3 ⟨hw.1, zws_tl (zws_tl hw.2.1), zwh_set hw.2.2 (zwc_put hwa (zws_hd hw.2.1))⟩ hr hnn ad H1 locs1 lsA ha hP1 hD1 hS1 hl
theorem zs_putfF (F : CallFix p m c cc nL s args Ts own) (hK : va_K D cl (zTys dA SC) s) {ci k nx index N : Nat} {Cn ref : String} {T : u_T} {ty : FieldType} (hin : ∀ w ∈ u_ws Cn T N, w ∈ Ts) (ty0 : Nat → FieldType) (hty : ∀ k, k < N → parseFieldDescriptor (T k).2.2.1 = some (ty0 k)) (hnm : ∀ a, a < N → ∀ b, b < N → a ≠ b → (T a).2.1 ≠ (T b).2.1) (hc : cl[ci]? = some (Cn, T, N)) (hk : k < N) (hlink : Cond.fieldLink own index ref (T k).2.1 (T k).2.2.1 ∈ Ts) (href : (T k).1 = ref) (hfin : (T k).2.2.2 = true) (hin2 : meth.name = "<init>") (hdecl : (T k).1 = own) (hd9 : parseFieldDescriptor (T k).2.2.1 = some ty) (hd : decode cc pc = .ok (.putfield index, 3)) (hn : pc + 3 = nx) : zSnd (zConc p l e R s m args below meth c Qf nL D cl dA A ad0 n0) C R' pc (zt_putf ci k ty nx) := by
  intro ls st h n cu su ht hw hr hnn ad H locs lsA ha hP hD hS hl
  subst hn
  match st, ht, hw with
  | v :: .ref b :: st, ht, hw =>
    obtain ⟨fs, h1, h2, h4, h3⟩ := ht
    have hbl := zws_ref (zws_tl hw.2.1)
    have hg := zW_get (dA := dA) (ad := ad) (h := h) hbl
    rw [h1] at hg
    have hwa := hw.2.2 b hbl
    rw [h1] at hwa
    refine va_putF F.1 F.2.1 F.2.2.2.2 hin ty0 hty hnm F.2.2.2.1 hK hP hD hS b hg hc k hk (F.2.2.2.2 _ hlink) (fun x h9 => by rw [← href]; exact h9) hfin hin2 hdecl hd9 (zs_fits h4).1 (zs_fits h4).2 (by rw [List.length_map]; exact h2) hd fun H1 locs1 hP1 hD1 hS1 => ?_
    rw [zs_put9] at hP1 hD1
    exact h3 ⟨hw.1, zws_tl (zws_tl hw.2.1), zwh_set hw.2.2 (zwc_put hwa (zws_hd hw.2.1))⟩ hr hnn ad H1 locs1 lsA ha hP1 hD1 hS1 hl
end ZSound
end
section
/-! what makes cells; Object.<init>; Math.max and min; switches -/
section ZSound
variable {p : Program} {l : Launch} {e : Env} {R : Room} {s : State} {m : MethodId} {args : Array Value} {below : List Frame} {meth : Method} {c : Code} {Qf : State → Prop}
variable {cc : ByteArray} {nL : Nat} {Ts : List Cond} {own SC : String} {D : va_G} {cl : List vw_C} {dA : Nat → ClassId} {A : Nat → Prop} {ad0 : Nat → Nat} {n0 : Nat}
variable {C : zK} {R' : zQ} {pc : Nat}

theorem zty_name {dA : Nat → ClassId} {SC : String} {D : va_G} {cl : List vw_C} {s : State} (hK : va_K D cl (zTys dA SC) s) {t : Nat} {ty : FieldType} (ht : (zTys dA SC)[t]? = some (dA t, ty)) {cA : ClassId} (h : va_RA s cA ty) : cA = dA t := by
  have h1 := (hK.2 t _ ht).2
  cases ty with
  | object X =>
    obtain ⟨-, -, -, -, -, e1⟩ := h1
    obtain ⟨-, -, -, -, -, e2⟩ := h
    exact Option.some.inj (e2.symm.trans e1)
  | _ => exact Option.some.inj (Eq.trans (Eq.symm h) h1)
theorem zvp_nn {k : Int32} (h : ¬ k < 0) (h2 : k.toNatClampNeg ≤ 1000) : k.toNatClampNeg * 8 ≤ 536870912 := by omega
theorem zs_newi (F : CallFix p m c cc nL s args Ts own) (hK : va_K D cl (zTys dA SC) s) (hA : ∀ q, s.heap.size ≤ q → A q) {lim : Nat × Nat} (hlim : lim.1 ≤ R.cells ∧ lim.2 ≤ R.slots) {nx : Nat} (harr : Cond.arrayClass .int ∈ Ts) (hd : decode cc pc = .ok (.newarray .int, 2)) (hn : pc + 2 = nx) : zSnd (zConc p l e R s m args below meth c Qf nL D cl dA A ad0 n0) C R' pc (zt_newi lim nx) := by
  intro ls st h n cu su ht hw hr hnn ad H locs lsA ha hP hD hS hl
  subst hn
  match st, ht, hw with
  | .int k :: st, ht, hw =>
    obtain ⟨h1, h2, h3, h4⟩ := ht
    obtain ⟨f1, f2⟩ := zfit_ok h3
    refine va_newa (atype := .int) (a0 := (k.toNatClampNeg, .inl (fun _ => 0))) F.1 F.2.1 (F.2.2.2.2 _ harr) rfl hK hP hD hS hA (fun cA => rfl) h1 rfl (Nat.le_trans (Nat.mul_le_mul_left _ (show componentBytes .int ≤ 8 by decide)) (zvp_nn h1 h2)) (Nat.le_trans f1 hlim.1) (Nat.le_trans f2 hlim.2) hd fun q cA H1 hK1 hP1 hD1 hS1 => ?_
    have hcA : cA = dA 0 := zty_name (t := 0) hK rfl (hK1.2 5 (cA, .int) rfl).2
    subst hcA
    have e9 := zW_new (dA := dA) (ad := ad) (q := q) (c := .inl (0, (k.toNatClampNeg, .inl (fun _ => 0)))) hw.2.2 trivial
    have hl' : lv_has lsA nL (zlv (zadd ad n q) 0 ls) := zlv_agree zadd_lt hw.1 hl
    have k9 := h4 ⟨zwl_up hw.1 (Nat.le_succ n), zws_cons (zwv_ref (Nat.lt_succ_self n)) (zws_up (zws_tl hw.2.1) (Nat.le_succ n)), zwh_new hw.2.2 trivial⟩ ⟨Nat.le_trans f1 hlim.1, Nat.le_trans f2 hlim.2⟩ (Nat.le_succ_of_le hnn) (zadd ad n q) H1 locs lsA (fun i hi => (zadd_lt i (Nat.lt_of_lt_of_le hi hnn)).trans (ha i hi)) (e9 ▸ hP1) (e9 ▸ hD1) hS1 hl'
    rw [List.map_cons, zvs_agree zadd_lt (zws_tl hw.2.1), show zv (zadd ad n q) (.ref n) = .ref q from congrArg Value.ref zadd_n] at k9
    exact k9
theorem zs_newz (F : CallFix p m c cc nL s args Ts own) (hK : va_K D cl (zTys dA SC) s) (hA : ∀ q, s.heap.size ≤ q → A q) {lim : Nat × Nat} (hlim : lim.1 ≤ R.cells ∧ lim.2 ≤ R.slots) {nx : Nat} (harr : Cond.arrayClass .boolean ∈ Ts) (hd : decode cc pc = .ok (.newarray .boolean, 2)) (hn : pc + 2 = nx) : zSnd (zConc p l e R s m args below meth c Qf nL D cl dA A ad0 n0) C R' pc (zt_newz lim nx) := by
  intro ls st h n cu su ht hw hr hnn ad H locs lsA ha hP hD hS hl
  subst hn
  match st, ht, hw with
  | .int k :: st, ht, hw =>
    obtain ⟨h1, h2, h3, h4⟩ := ht
    obtain ⟨f1, f2⟩ := zfit_ok h3
    refine va_newa (atype := .boolean) (a0 := (k.toNatClampNeg, .inl (fun _ => 0))) F.1 F.2.1 (F.2.2.2.2 _ harr) rfl hK hP hD hS hA (fun cA => rfl) h1 rfl (Nat.le_trans (Nat.mul_le_mul_left _ (show componentBytes .boolean ≤ 8 by decide)) (zvp_nn h1 h2)) (Nat.le_trans f1 hlim.1) (Nat.le_trans f2 hlim.2) hd fun q cA H1 hK1 hP1 hD1 hS1 => ?_
    have hcA : cA = dA 1 := zty_name (t := 1) hK rfl (hK1.2 5 (cA, .boolean) rfl).2
    subst hcA
    have e9 := zW_new (dA := dA) (ad := ad) (q := q) (c := .inl (1, (k.toNatClampNeg, .inl (fun _ => 0)))) hw.2.2 trivial
    have hl' : lv_has lsA nL (zlv (zadd ad n q) 0 ls) := zlv_agree zadd_lt hw.1 hl
    have k9 := h4 ⟨zwl_up hw.1 (Nat.le_succ n), zws_cons (zwv_ref (Nat.lt_succ_self n)) (zws_up (zws_tl hw.2.1) (Nat.le_succ n)), zwh_new hw.2.2 trivial⟩ ⟨Nat.le_trans f1 hlim.1, Nat.le_trans f2 hlim.2⟩ (Nat.le_succ_of_le hnn) (zadd ad n q) H1 locs lsA (fun i hi => (zadd_lt i (Nat.lt_of_lt_of_le hi hnn)).trans (ha i hi)) (e9 ▸ hP1) (e9 ▸ hD1) hS1 hl'
    rw [List.map_cons, zvs_agree zadd_lt (zws_tl hw.2.1), show zv (zadd ad n q) (.ref n) = .ref q from congrArg Value.ref zadd_n] at k9
    exact k9
theorem zs_newl (F : CallFix p m c cc nL s args Ts own) (hK : va_K D cl (zTys dA SC) s) (hA : ∀ q, s.heap.size ≤ q → A q) {lim : Nat × Nat} (hlim : lim.1 ≤ R.cells ∧ lim.2 ≤ R.slots) {nx : Nat} (harr : Cond.arrayClass .long ∈ Ts) (hd : decode cc pc = .ok (.newarray .long, 2)) (hn : pc + 2 = nx) : zSnd (zConc p l e R s m args below meth c Qf nL D cl dA A ad0 n0) C R' pc (zt_newl lim nx) := by
  intro ls st h n cu su ht hw hr hnn ad H locs lsA ha hP hD hS hl
  subst hn
  match st, ht, hw with
  | .int k :: st, ht, hw =>
    obtain ⟨h1, h2, h3, h4⟩ := ht
    obtain ⟨f1, f2⟩ := zfit_ok h3
    refine va_newa (atype := .long) (a0 := (k.toNatClampNeg, .inr (.inl (fun _ => 0)))) F.1 F.2.1 (F.2.2.2.2 _ harr) rfl hK hP hD hS hA (fun cA => rfl) h1 rfl (Nat.le_trans (Nat.mul_le_mul_left _ (show componentBytes .long ≤ 8 by decide)) (zvp_nn h1 h2)) (Nat.le_trans f1 hlim.1) (Nat.le_trans f2 hlim.2) hd fun q cA H1 hK1 hP1 hD1 hS1 => ?_
    have hcA : cA = dA 2 := zty_name (t := 2) hK rfl (hK1.2 5 (cA, .long) rfl).2
    subst hcA
    have e9 := zW_new (dA := dA) (ad := ad) (q := q) (c := .inl (2, (k.toNatClampNeg, .inr (.inl (fun _ => 0))))) hw.2.2 trivial
    have hl' : lv_has lsA nL (zlv (zadd ad n q) 0 ls) := zlv_agree zadd_lt hw.1 hl
    have k9 := h4 ⟨zwl_up hw.1 (Nat.le_succ n), zws_cons (zwv_ref (Nat.lt_succ_self n)) (zws_up (zws_tl hw.2.1) (Nat.le_succ n)), zwh_new hw.2.2 trivial⟩ ⟨Nat.le_trans f1 hlim.1, Nat.le_trans f2 hlim.2⟩ (Nat.le_succ_of_le hnn) (zadd ad n q) H1 locs lsA (fun i hi => (zadd_lt i (Nat.lt_of_lt_of_le hi hnn)).trans (ha i hi)) (e9 ▸ hP1) (e9 ▸ hD1) hS1 hl'
    rw [List.map_cons, zvs_agree zadd_lt (zws_tl hw.2.1), show zv (zadd ad n q) (.ref n) = .ref q from congrArg Value.ref zadd_n] at k9
    exact k9
theorem zs_newd (F : CallFix p m c cc nL s args Ts own) (hK : va_K D cl (zTys dA SC) s) (hA : ∀ q, s.heap.size ≤ q → A q) {lim : Nat × Nat} (hlim : lim.1 ≤ R.cells ∧ lim.2 ≤ R.slots) {nx : Nat} (harr : Cond.arrayClass .double ∈ Ts) (hd : decode cc pc = .ok (.newarray .double, 2)) (hn : pc + 2 = nx) : zSnd (zConc p l e R s m args below meth c Qf nL D cl dA A ad0 n0) C R' pc (zt_newd lim nx) := by
  intro ls st h n cu su ht hw hr hnn ad H locs lsA ha hP hD hS hl
  subst hn
  match st, ht, hw with
  | .int k :: st, ht, hw =>
    obtain ⟨h1, h2, h3, h4⟩ := ht
    obtain ⟨f1, f2⟩ := zfit_ok h3
    refine va_newa (atype := .double) (a0 := (k.toNatClampNeg, .inr (.inr (.inr (.inl (fun _ => 0)))))) F.1 F.2.1 (F.2.2.2.2 _ harr) rfl hK hP hD hS hA (fun cA => rfl) h1 rfl (Nat.le_trans (Nat.mul_le_mul_left _ (show componentBytes .double ≤ 8 by decide)) (zvp_nn h1 h2)) (Nat.le_trans f1 hlim.1) (Nat.le_trans f2 hlim.2) hd fun q cA H1 hK1 hP1 hD1 hS1 => ?_
    have hcA : cA = dA 3 := zty_name (t := 3) hK rfl (hK1.2 5 (cA, .double) rfl).2
    subst hcA
    have e9 := zW_new (dA := dA) (ad := ad) (q := q) (c := .inl (3, (k.toNatClampNeg, .inr (.inr (.inr (.inl (fun _ => 0))))))) hw.2.2 trivial
    have hl' : lv_has lsA nL (zlv (zadd ad n q) 0 ls) := zlv_agree zadd_lt hw.1 hl
    have k9 := h4 ⟨zwl_up hw.1 (Nat.le_succ n), zws_cons (zwv_ref (Nat.lt_succ_self n)) (zws_up (zws_tl hw.2.1) (Nat.le_succ n)), zwh_new hw.2.2 trivial⟩ ⟨Nat.le_trans f1 hlim.1, Nat.le_trans f2 hlim.2⟩ (Nat.le_succ_of_le hnn) (zadd ad n q) H1 locs lsA (fun i hi => (zadd_lt i (Nat.lt_of_lt_of_le hi hnn)).trans (ha i hi)) (e9 ▸ hP1) (e9 ▸ hD1) hS1 hl'
    rw [List.map_cons, zvs_agree zadd_lt (zws_tl hw.2.1), show zv (zadd ad n q) (.ref n) = .ref q from congrArg Value.ref zadd_n] at k9
    exact k9
theorem zs_newa (F : CallFix p m c cc nL s args Ts own) (hK : va_K D cl (zTys dA SC) s) (hA : ∀ q, s.heap.size ≤ q → A q) {lim : Nat × Nat} (hlim : lim.1 ≤ R.cells ∧ lim.2 ≤ R.slots) {nx index : Nat} (hcl : Cond.classLink own index SC ∈ Ts) (hao : va_AO SC s) (hd : decode cc pc = .ok (.anewarray index, 3)) (hn : pc + 3 = nx) : zSnd (zConc p l e R s m args below meth c Qf nL D cl dA A ad0 n0) C R' pc (zt_newa lim nx) := by
  intro ls st h n cu su ht hw hr hnn ad H locs lsA ha hP hD hS hl
  subst hn
  match st, ht, hw with
  | .int k :: st, ht, hw =>
    obtain ⟨h1, h2, h3, h4⟩ := ht
    obtain ⟨f1, f2⟩ := zfit_ok h3
    refine va_newq F.1 F.2.1 F.2.2.2.1 (F.2.2.2.2 _ hcl) hao hK hP hD hS hA h1 rfl (Nat.le_trans (Nat.mul_le_mul_left _ (show 4 ≤ 8 by decide)) (zvp_nn h1 h2)) (Nat.le_trans f1 hlim.1) (Nat.le_trans f2 hlim.2) hd fun q cA H1 hK1 hP1 hD1 hS1 => ?_
    have hcA : cA = dA 4 := zty_name (t := 4) hK rfl (hK1.2 5 (cA, .object SC) rfl).2
    subst hcA
    have e9 := zW_new (dA := dA) (ad := ad) (q := q) (c := .inl (4, (k.toNatClampNeg, .inr (.inr (.inr (.inr (fun _ => none))))))) hw.2.2 (fun j a h => nomatch h)
    have hl' : lv_has lsA nL (zlv (zadd ad n q) 0 ls) := zlv_agree zadd_lt hw.1 hl
    have k9 := h4 ⟨zwl_up hw.1 (Nat.le_succ n), zws_cons (zwv_ref (Nat.lt_succ_self n)) (zws_up (zws_tl hw.2.1) (Nat.le_succ n)), zwh_new hw.2.2 (fun j a h => nomatch h)⟩ ⟨Nat.le_trans f1 hlim.1, Nat.le_trans f2 hlim.2⟩ (Nat.le_succ_of_le hnn) (zadd ad n q) H1 locs lsA (fun i hi => (zadd_lt i (Nat.lt_of_lt_of_le hi hnn)).trans (ha i hi)) (e9 ▸ hP1) (e9 ▸ hD1) hS1 hl'
    rw [List.map_cons, zvs_agree zadd_lt (zws_tl hw.2.1), show zv (zadd ad n q) (.ref n) = .ref q from congrArg Value.ref zadd_n] at k9
    exact k9
theorem zs_new (F : CallFix p m c cc nL s args Ts own) (hK : va_K D cl (zTys dA SC) s) (hA : ∀ q, s.heap.size ≤ q → A q) {lim : Nat × Nat} (hlim : lim.1 ≤ R.cells ∧ lim.2 ≤ R.slots) {ci nx index N : Nat} {Cn : String} {T : u_T} {fs : List Value} (hin : ∀ w ∈ u_ws Cn T N, w ∈ Ts) (ty : Nat → FieldType) (hty : ∀ k, k < N → parseFieldDescriptor (T k).2.2.1 = some (ty k)) (hcl : Cond.classLink own index Cn ∈ Ts) (hinst : Cond.instantiable Cn N ∈ Ts) (hini : Cond.initialized Cn ∈ Ts) (hc : cl[ci]? = some (Cn, T, N)) (hfs : ∀ j, j < N → defaultValue (ty j) = vp_V fs j) (hN : fs.length = N) (hnr : fs.all (fun v => match v with | .ref _ => false | _ => true) = true) (hd : decode cc pc = .ok (.new index, 3)) (hn : pc + 3 = nx) : zSnd (zConc p l e R s m args below meth c Qf nL D cl dA A ad0 n0) C R' pc (zt_new ci fs lim nx) := by
  intro ls st h n cu su ht hw hr hnn ad H locs lsA ha hP hD hS hl
  subst hn
  obtain ⟨h3, h4⟩ := ht
  obtain ⟨f1, f2⟩ := zfit_ok h3
  have hwf : ∀ v ∈ fs, ∀ a, v ≠ .ref a := fun v hv a e => by
    have := List.all_eq_true.mp hnr v hv
    rw [e] at this
    exact nomatch this
  have hwc : zwc n (.inr (ci, fs)) := fun v hv a e => absurd e (hwf v hv a)
  have hmap : fs.map (zv ad) = fs := by
    have : fs.map (zv ad) = fs.map id := List.map_congr_left fun v hv => by
      cases v <;> first | rfl | exact absurd rfl (hwf _ hv _)
    rw [this, List.map_id]
  refine va_new F.1 F.2.1 F.2.2.2.2 hin ty hty F.2.2.2.1 (F.2.2.2.2 _ hcl) (F.2.2.2.2 _ hinst) (F.2.2.2.2 _ hini) hK hP hD hS hA hc hfs (Nat.le_trans f1 hlim.1) (by rw [← hN]; exact Nat.le_trans f2 hlim.2) hd fun q H1 hP1 hD1 hS1 => ?_
  have e9 := zW_new (dA := dA) (ad := ad) (q := q) (c := .inr (ci, fs)) hw.2.2 hwc
  rw [show zcell ad dA (.inr (ci, fs)) = .inr (ci, fs) from congrArg (fun z => Sum.inr (ci, z)) hmap] at e9
  have hl' : lv_has lsA nL (zlv (zadd ad n q) 0 ls) := zlv_agree zadd_lt hw.1 hl
  have k9 := h4 ⟨zwl_up hw.1 (Nat.le_succ n), zws_cons (zwv_ref (Nat.lt_succ_self n)) (zws_up hw.2.1 (Nat.le_succ n)), zwh_new hw.2.2 hwc⟩ ⟨Nat.le_trans f1 hlim.1, Nat.le_trans f2 hlim.2⟩ (Nat.le_succ_of_le hnn) (zadd ad n q) H1 locs lsA (fun i hi => (zadd_lt i (Nat.lt_of_lt_of_le hi hnn)).trans (ha i hi)) (e9 ▸ hP1) (e9 ▸ hD1) hS1 hl'
  rw [List.map_cons, zvs_agree zadd_lt hw.2.1, show zv (zadd ad n q) (.ref n) = .ref q from congrArg Value.ref zadd_n, hN] at k9
  exact k9
theorem zs_objinit (F : CallFix p m c cc nL s args Ts own) {nx index : Nat} (hlink : Cond.methodLink own index Lib.objectInit ∈ Ts) (hinst : Cond.instanceMethod Lib.objectInit ∈ Ts) (hcode : Cond.code Lib.objectInit ⟨#[0xb1]⟩ 1 none ∈ Ts) (hR : 1 ≤ R.frames ∧ 20 ≤ R.locals) (hd : decode cc pc = .ok (.invokespecial index, 3)) (hn : pc + 3 = nx) : zSnd (zConc p l e R s m args below meth c Qf nL D cl dA A ad0 n0) C R' pc (zt_objinit nx) := by
  intro ls st h n cu su ht hw hr hnn ad H locs lsA ha hP hD hS hl
  subst hn
  match st, ht, hw with
  | .ref a :: st, ht, hw =>
    unfold zt_objinit at ht
    cases hk : zsm st 8 with
    | false => simp only [hk] at ht
    | true =>
      simp only [hk] at ht
      have h8 := zsm_ok st 8 hk
      refine W.objInit F.1 F.2.1 F.2.2.2.1 (F.2.2.2.2 _ hlink) (F.2.2.2.2 _ hinst) (F.2.2.2.2 _ hcode) rfl (hl.1.trans F.2.2.1.symm) rfl hd hR.1 (by rw [zsm_map]; show 2 * 0 + _ + 12 ≤ _; omega) ?_
      exact ht ⟨hw.1, zws_tl hw.2.1, hw.2.2⟩ hr hnn ad H locs lsA ha hP hD hS hl
theorem zs_imax (F : CallFix p m c cc nL s args Ts own) {nx index : Nat} (hlink : Cond.methodLink own index Lib.Math.max.name ∈ Ts) (hst : Cond.static Lib.Math.max.name ∈ Ts) (hini : Cond.initialized "java/lang/Math" ∈ Ts) (hcode : Cond.code Lib.Math.max.name Lib.Math.max.code 2 (some .int) ∈ Ts) (hR : 1 ≤ R.frames ∧ 21 ≤ R.locals) (hd : decode cc pc = .ok (.invokestatic index, 3)) (hn : pc + 3 = nx) : zSnd (zConc p l e R s m args below meth c Qf nL D cl dA A ad0 n0) C R' pc (zt_imax nx) := by
  intro ls st h n cu su ht hw hr hnn ad H locs lsA ha hP hD hS hl
  subst hn
  match st, ht, hw with
  | .int b :: .int a :: st, ht, hw =>
    unfold zt_imax at ht
    cases hk : zsm st 8 with
    | false => simp only [hk] at ht
    | true =>
      simp only [hk] at ht
      have h8 := zsm_ok st 8 hk
      exact va_mmax F.1 F.2.1 (F.2.2.1.trans hl.1.symm) F.2.2.2.1 (F.2.2.2.2 _ hlink) (F.2.2.2.2 _ hst) (F.2.2.2.2 _ hini) (F.2.2.2.2 _ hcode) hR.1 (by rw [zsm_map]; omega) hr.1 hr.2 hd (ht ⟨hw.1, zws_cons zwv_int (zws_tl (zws_tl hw.2.1)), hw.2.2⟩ hr hnn ad H locs lsA ha hP hD hS hl)
theorem zs_imin (F : CallFix p m c cc nL s args Ts own) {nx index : Nat} (hlink : Cond.methodLink own index Lib.Math.min.name ∈ Ts) (hst : Cond.static Lib.Math.min.name ∈ Ts) (hini : Cond.initialized "java/lang/Math" ∈ Ts) (hcode : Cond.code Lib.Math.min.name Lib.Math.min.code 2 (some .int) ∈ Ts) (hR : 1 ≤ R.frames ∧ 21 ≤ R.locals) (hd : decode cc pc = .ok (.invokestatic index, 3)) (hn : pc + 3 = nx) : zSnd (zConc p l e R s m args below meth c Qf nL D cl dA A ad0 n0) C R' pc (zt_imin nx) := by
  intro ls st h n cu su ht hw hr hnn ad H locs lsA ha hP hD hS hl
  subst hn
  match st, ht, hw with
  | .int b :: .int a :: st, ht, hw =>
    unfold zt_imin at ht
    cases hk : zsm st 8 with
    | false => simp only [hk] at ht
    | true =>
      simp only [hk] at ht
      have h8 := zsm_ok st 8 hk
      exact va_mmin F.1 F.2.1 (F.2.2.1.trans hl.1.symm) F.2.2.2.1 (F.2.2.2.2 _ hlink) (F.2.2.2.2 _ hst) (F.2.2.2.2 _ hini) (F.2.2.2.2 _ hcode) hR.1 (by rw [zsm_map]; omega) hr.1 hr.2 hd (ht ⟨hw.1, zws_cons zwv_int (zws_tl (zws_tl hw.2.1)), hw.2.2⟩ hr hnn ad H locs lsA ha hP hD hS hl)
theorem zs_lookup (F : CallFix p m c cc nL s args Ts own) {dflt : Int} {ps : Array (Int × Int)} {len : Nat} {qs : List (Int32 × Nat)} {dt : Nat} (hd : decode cc pc = .ok (.lookupswitch dflt ps, len)) (hp : (ps.toList.zip (ps.toList.drop 1)).all (fun (a, next) => a.1 < next.1) = true) (hq : ∀ x : Int32, (∃ q ∈ qs, x = q.1 ∧ (pc : Int) + Op.lookupswitch.offset ps.toList dflt x.toInt = ((q.2 : Nat) : Int)) ∨ ((∀ q ∈ qs, ¬ x = q.1) ∧ (pc : Int) + Op.lookupswitch.offset ps.toList dflt x.toInt = ((dt : Nat) : Int))) : zSnd (zConc p l e R s m args below meth c Qf nL D cl dA A ad0 n0) C R' pc (zt_lookup qs dt) := by
  intro ls st h n cu su ht hw hr hnn ad H locs lsA ha hP hD hS hl
  match st, ht, hw with
  | .int a :: st, ht, hw =>
    rcases hq a with ⟨q, h1, h2, h3⟩ | ⟨h1, h3⟩
    · exact lv_lookup F.1 F.2.1 hd hp rfl h3 (ht.1 q h1 h2 ⟨hw.1, zws_tl hw.2.1, hw.2.2⟩ hr hnn ad H locs lsA ha hP hD hS hl)
    · exact lv_lookup F.1 F.2.1 hd hp rfl h3 (ht.2 h1 ⟨hw.1, zws_tl hw.2.1, hw.2.2⟩ hr hnn ad H locs lsA ha hP hD hS hl)
end ZSound
end
section
/-! CONTRACTS of the abstract machine, said of the real one; calls; ends -/
/-- what the tables and the statics say, and every method hands on: the two statics that a throw reads, texts, words that no change of the tables takes back -/
def zEnv (St : List (String × Nat × String)) (Nw : List Cond) (Nc : List (String × String)) (SC : String) (A : Nat → Prop) (U : State) (H : Heap) : Prop :=
  vx_Zq Bundle.tN "UNASSIGNED_STACK" Bundle.steD A U H ∧ vx_Zq Bundle.tN "SUPPRESSED_SENTINEL" Bundle.listD A U H ∧ (∀ q ∈ St, ∃ sa, vk_R q.1 q.2.1 q.2.2 sa U) ∧ (∀ w ∈ Nw, va_Nw w U) ∧ (∀ q ∈ Nc, va_Nc q.1 q.2 U) ∧ va_AO SC U
/-- a word of this kind stays as the tables warm -/
def zst : Cond → Bool
  | .methodLinkNest .. => true
  | .fieldLinkNest .. => true
  | .castable .. => true
  | .declares .. => true
  | _ => false
theorem zst_warm {w : Cond} (hw : zst w = true) {s U : State} (hW : s.WarmedH U.vm) (h : va_Nw w s) : va_Nw w U := by
  cases w <;> first | exact va_Nw.warmM hW h | exact va_Nw.warmF hW h | exact va_Nw.warmC hW h | exact va_Nw.warmD hW h | exact absurd hw Bool.false_ne_true
section ZEnv
variable {St : List (String × Nat × String)} {Nw : List Cond} {Nc : List (String × String)} {SC : String}
theorem zEnv.moved (hNw : Nw.all zst = true) {A : Nat → Prop} {s U : State} {H : Heap} (hW : s.WarmedH U.vm) (h : zEnv St Nw Nc SC A s H) : zEnv St Nw Nc SC A U H := by
  obtain ⟨h1, h2, h3, h4, h5, h6⟩ := h
  refine ⟨h1.moved hW.alike, h2.moved hW.alike, fun q hq => ?_, fun w hw => zst_warm (List.all_eq_true.mp hNw w hw) hW (h4 w hw), fun q hq => va_Nc.moved hW.alike (h5 q hq), va_AO.moved hW.alike h6⟩
  obtain ⟨sa, h⟩ := h3 q hq
  exact ⟨sa, vk_R.warm hW h⟩
theorem zEnv.kept {A : Nat → Prop} {U : State} {H H1 : Heap} (h : zEnv St Nw Nc SC A U H) (hq : ∀ a : Nat, a < H.size → ¬ A a → H1[a]? = H[a]?) : zEnv St Nw Nc SC A U H1 := ⟨h.1.kept hq, h.2.1.kept hq, h.2.2⟩
theorem zEnv.narrow {A B : Nat → Prop} {U : State} {H : Heap} (h : zEnv St Nw Nc SC A U H) (hAB : ∀ q, B q → A q) : zEnv St Nw Nc SC B U H := ⟨h.1.narrow hAB, h.2.1.narrow hAB, h.2.2⟩
end ZEnv
section ZCon
variable (l : Launch) (D : va_G) (cl : List vw_C) (dA : Nat → ClassId) (SC : String) (St : List (String × Nat × String)) (Nw : List Cond) (Nc : List (String × String))
def zPre (ad : Nat → Nat) (as : List Value) (h : zH) (n sz : Nat) : Array Value → State → Prop :=
  va_Pc (as.map (zv ad)) fun U => U.heap.size = sz ∧ va_P D cl (zW dA ad h n) U.heap ∧ va_K D cl (zTys dA SC) U ∧ va_D (fun _ => True) (zW dA ad h n) ∧ zEnv St Nw Nc SC (va_A (zW dA ad h n) sz) U U.heap
/-- the world behind a call -/
def zEnd (ad : Nat → Nat) (h : zH) (n sz : Nat) (ad' : Nat → Nat) (h' : zH) (n' : Nat) (st t : State) : Prop :=
  n ≤ n' ∧ (∀ i, i < n → ad' i = ad i) ∧ zwh n' h' ∧ va_P D cl (zW dA ad' h' n') t.heap ∧ va_D (va_A (zW dA ad h n) sz) (zW dA ad' h' n') ∧ va_F (va_A (zW dA ad h n) sz) st t
def zQc (ad : Nat → Nat) (h : zH) (n sz : Nat) (Q : zQ) : Array Value → State → Outcome → State → Prop := fun _ st o t =>
  ∃ (r : Option Value) (h' : zH) (n' : Nat) (ad' : Nat → Nat), o = .returned (r.map (zv ad')) ∧ Q 0 r h' n' ∧ (∀ v, r = some v → zwv n' v) ∧ zEnd D cl dA ad h n sz ad' h' n' st t
/-- the kinds of exceptions by number -/
def zxn : Nat → String
  | 0 => "java/lang/IllegalArgumentException"
  | 1 => "java/lang/IllegalStateException"
  | _ => "java/lang/IndexOutOfBoundsException"
def zXC (ad : Nat → Nat) (h : zH) (n sz : Nat) (Q : zQ) : String → State → State → Prop := fun E st t =>
  ∃ (x : Nat) (h' : zH) (n' : Nat) (ad' : Nat → Nat), zxn x = E ∧ x < 3 ∧ Q (x + 1) none h' n' ∧ zEnd D cl dA ad h n sz ad' h' n' st t
/-- a method's name, its words, its room -/
abbrev zMT : Type := Nat → MethodName × List Cond × Room
def zMet (MT : zMT) : zK := fun k as h n Q => zws n as → zwh n h → ∀ (ad : Nat → Nat) (sz : Nat),
  vx_Met l (MT k).1 (MT k).2.1 (MT k).2.2 (zPre D cl dA SC St Nw Nc ad as h n sz) (zQc D cl dA ad h n sz Q) (zXC D cl dA ad h n sz Q) (MT k).2.2.cells (MT k).2.2.slots (va_A (zW dA ad h n) sz)
end ZCon
theorem vx_Met.mono {l : Launch} {y : MethodName} {ws : List Cond} {rm : Room} {Pc : Array Value → State → Prop} {Qc Qc' : Array Value → State → Outcome → State → Prop} {XC XC' : String → State → State → Prop} {mc ms : Nat} {free : Addr → Prop} (h : vx_Met l y ws rm Pc Qc XC mc ms free) (h1 : ∀ a st o t, Qc a st o t → Qc' a st o t) (h2 : ∀ E st t, XC E st t → XC' E st t) : vx_Met l y ws rm Pc Qc' XC' mc ms free := by
  intro p e ha hc hk s m args below hf happ hP hK
  obtain ⟨n, o, a1, a2, a3, a4⟩ := h p e ha hc hk s m args below hf happ hP hK
  refine ⟨n, o, a1, a2, a3, ?_⟩
  rcases a4 with ⟨q1, q2⟩ | ⟨q, rfl, E, ce, L, q1, q2⟩
  · exact Or.inl ⟨h1 _ _ _ _ q1, q2⟩
  · exact Or.inr ⟨q, rfl, E, ce, L, h2 _ _ _ q1, q2⟩
theorem vx_Met.met {l : Launch} {y : MethodName} {ws : List Cond} {rm : Room} {Pc : Array Value → State → Prop} {Qc : Array Value → State → Outcome → State → Prop} {XC : String → State → State → Prop} {mc ms : Nat} {free : Addr → Prop} (h : vx_Met l y ws rm Pc Qc XC mc ms free) (h2 : ∀ E st t, ¬ XC E st t) : Met l y ws rm Pc Qc mc ms free := by
  intro p e ha hc hk s m args below hf happ hP hK
  obtain ⟨n, o, a1, a2, a3, a4⟩ := h p e ha hc hk s m args below hf happ hP hK
  refine ⟨n, o, a1, a2, a3, ?_⟩
  rcases a4 with q | ⟨q, rfl, E, ce, L, q1, q2⟩
  · exact q
  · exact absurd q1 (h2 _ _ _)
section ZCall
variable {p : Program} {l : Launch} {e : Env} {R : Room} {s : State} {m : MethodId} {args : Array Value} {below : List Frame} {meth : Method} {c : Code} {Qf : State → Prop}
variable {cc : ByteArray} {nL : Nat} {Ts : List Cond} {own SC : String} {D : va_G} {cl : List vw_C} {dA : Nat → ClassId} {A : Nat → Prop} {ad0 : Nat → Nat} {n0 : Nat}
variable {St : List (String × Nat × String)} {Nw : List Cond} {Nc : List (String × String)} {MT : zMT}
variable {R' : zQ} {pc : Nat}
theorem zMet.mono {k : Nat} {as : List Value} {h : zH} {n : Nat} {Q Q' : zQ} (hQ : ∀ x r h n, Q x r h n → Q' x r h n) (hm : zMet l D cl dA SC St Nw Nc MT k as h n Q) : zMet l D cl dA SC St Nw Nc MT k as h n Q' := fun h1 h2 ad sz => (hm h1 h2 ad sz).mono
  (fun _ _ _ _ ⟨r, h', n', ad', q1, q2, q3⟩ => ⟨r, h', n', ad', q1, hQ _ _ _ _ q2, q3⟩)
  (fun _ _ _ ⟨x, h', n', ad', q1, q0, q2, q3⟩ => ⟨x, h', n', ad', q1, q0, hQ _ _ _ _ q2, q3⟩)
theorem zfree {ad : Nat → Nat} {h : zH} {n : Nat} {H0 H : Heap} {locs : List Loc} (hA : ∀ q, H0.size ≤ q → A q) (hD : va_D A (zW dA ad h n)) (hS : va_S A H0 H locs) : ∀ q, va_A (zW dA ad h n) H.size q → A q := by
  intro q hq
  rcases hq with ⟨k, e, h1⟩ | h1
  · exact hD.2 k _ h1
  · exact hA q (Nat.le_trans hS.1 h1)
/-- what holds at a callee's start, out of what holds here -/
theorem zpre_at (hNw : Nw.all zst = true) (hA : ∀ q, s.heap.size ≤ q → A q) (hK : va_K D cl (zTys dA SC) s) (hE : zEnv St Nw Nc SC A s s.heap) {ad : Nat → Nat} {h : zH} {n : Nat} {H : Heap} {locs : List Loc} {as : List Value} (hP : va_P D cl (zW dA ad h n) H) (hD : va_D A (zW dA ad h n)) (hS : va_S A s.heap H locs) :
    FrameBlind (zPre D cl dA SC St Nw Nc ad as h n H.size) ∧ ∀ U : State, U.heap = H → s.WarmedH U.vm → zPre D cl dA SC St Nw Nc ad as h n H.size (as.map (zv ad)).toArray U := by
  refine ⟨fun a U g mk q => ?_, fun U hU hW => ?_⟩
  · obtain ⟨q0, q1, q2, q3, q4, q5⟩ := q
    exact ⟨q0, q1, q2, va_K.moved (u := U) (U := U.calling g mk a) (Vm.Alike.refl U.vm) q3, q4, zEnv.moved hNw (s := U) (U := U.calling g mk a) (State.WarmedH.refl U) q5⟩
  · subst hU
    exact ⟨rfl, rfl, hP, va_K.moved hW.alike hK, hD.weaken (fun _ _ _ _ => trivial), zEnv.moved hNw hW ((hE.kept hS.2.1).narrow (zfree hA hD hS))⟩
/-- behind a call that came back -/
theorem z_back {mc ms nx : Nat} {ad : Nat → Nat} {h : zH} {n : Nat} {H : Heap} {locs : List Loc} {lsA : Array Slot} {ls : zL} {st0 : List Value} {rest : List Value} {cu su : Nat} {av : Array Value}
    (hA : ∀ q, s.heap.size ≤ q → A q) (hnx : pc + 3 = nx) (hw : zwl n ls ∧ zws n rest) (hr : cu + mc ≤ R.cells ∧ su + ms ≤ R.slots) (hnn : n0 ≤ n) (ha : ∀ i, i < n0 → ad i = ad0 i) (hD : va_D A (zW dA ad h n)) (hS : va_S A s.heap H locs) (hl : lv_has lsA nL (zlv ad 0 ls))
    (hrun : va_Run p l e R s m args below meth c H locs cu su mc ms (F0 m pc lsA st0) (rest.map (zv ad)) (zQc D cl dA ad h n H.size (zback (zConc p l e R s m args below meth c Qf nL D cl dA A ad0 n0) nx ls rest (cu + mc) (su + ms)) av) (va_A (zW dA ad h n) H.size)) :
    W p l e R s m args below meth c H locs cu su Qf (F0 m pc lsA st0) := by
  subst hnx
  intro T hT X
  obtain ⟨v, st₀, t, T', L, h0, X', hL, e1, e2, ⟨r, h', n', ad', hv, hQ, hwr, hle, hag, hwh', hP', hD', hF⟩, st⟩ := hrun T hT X
  obtain ⟨-, -, hS'⟩ := vx_keep (A1 := va_A (zW dA ad h n) H.size) h0 e1 hS (fun q _ hq => zfree hA hD hS q hq) (fun q hq => zfree hA hD hS q hq) hL hF
  cases hv
  have hl' : lv_has lsA nL (zlv ad' 0 ls) := zlv_agree hag hw.1 hl
  have hD2 : va_D A (zW dA ad' h' n') := hD'.weaken (fun _ q _ hq => zfree hA hD hS q.1 hq)
  have ha' : ∀ i, i < n0 → ad' i = ad0 i := fun i hi => (hag i (Nat.lt_of_lt_of_le hi hnn)).trans (ha i hi)
  rw [← e1] at hP'
  have hrest : rest.map (zv ad') = rest.map (zv ad) := zvs_agree hag hw.2
  cases r with
  | none =>
    obtain ⟨t2, a1, b1⟩ := hQ ⟨zwl_up hw.1 hle, zws_up hw.2 hle, hwh'⟩ hr (Nat.le_trans hnn hle) ad' T'.heap (locs ++ L) lsA ha' hP' hD2 hS' hl' T' rfl X'
    rw [hrest] at a1
    exact ⟨t2, st t2 a1, b1⟩
  | some w =>
    obtain ⟨t2, a1, b1⟩ := hQ ⟨zwl_up hw.1 hle, zws_cons (hwr w rfl) (zws_up hw.2 hle), hwh'⟩ hr (Nat.le_trans hnn hle) ad' T'.heap (locs ++ L) lsA ha' hP' hD2 hS' hl' T' rfl X'
    rw [List.map_cons, hrest] at a1
    exact ⟨t2, st t2 a1, b1⟩
theorem zback_noX {D : va_G} {cl : List vw_C} {dA : Nat → ClassId} {ad : Nat → Nat} {h : zH} {n sz : Nat} {P : zP} {nx : Nat} {ls : zL} {s9 : List Value} {cu su : Nat} : ∀ E st t, ¬ zXC D cl dA ad h n sz (zback P nx ls s9 cu su) E st t := fun _ _ _ ⟨_, _, _, _, _, _, q, _⟩ => q
/-- what a place that calls owes: the callee's words among ours, its room within ours -/
def zroom (R rm : Room) (maxL : Nat) : Bool := Nat.ble (rm.frames + 1) R.frames && Nat.ble (8 + (maxL + 11) + rm.locals) R.locals
theorem zroom_ok {R rm : Room} {maxL : Nat} (h : zroom R rm maxL = true) : rm.frames + 1 ≤ R.frames ∧ 8 + (maxL + 11) + rm.locals ≤ R.locals := by
  simp only [zroom, Bool.and_eq_true] at h
  exact ⟨Nat.le_of_ble_eq_true h.1, Nat.le_of_ble_eq_true h.2⟩
/-- a method as a callee: its words begin with its code; how many parameters it has -/
def zcal (MT : zMT) (Ts : List Cond) (k : Nat) (bytes : ByteArray) (maxL : Nat) (ret : Option FieldType) (np : Nat) : Prop :=
  (MT k).2.1 = Cond.code (MT k).1 bytes maxL ret :: Ts ∧ GoodIn Ts (MT k).2.1 ∧ ((MT k).1.cls ≠ "java/lang/invoke/MethodHandle" ∧ (MT k).1.cls ≠ "java/lang/invoke/VarHandle" ∧ (parseMethodDescriptor (MT k).1.desc).map (fun d => d.parameters.length) = some np) ∧ Cond.initialized (MT k).1.cls ∈ Ts
/-- .. one with handlers -/
def zcalh (MT : zMT) (Ts : List Cond) (k : Nat) (bytes : ByteArray) (maxL : Nat) (ret : Option FieldType) (hh : List (Nat × Nat × Nat × Nat)) (np : Nat) : Prop :=
  (MT k).2.1 = Cond.codeWith (MT k).1 bytes maxL ret hh :: Ts ∧ GoodIn Ts (MT k).2.1 ∧ ((MT k).1.cls ≠ "java/lang/invoke/MethodHandle" ∧ (MT k).1.cls ≠ "java/lang/invoke/VarHandle" ∧ (parseMethodDescriptor (MT k).1.desc).map (fun d => d.parameters.length) = some np) ∧ Cond.initialized (MT k).1.cls ∈ Ts
theorem zpop_split {ad : Nat → Nat} {k : Nat} {st as s9 : List Value} (h : zpop k [] st = some (as, s9)) : st.map (zv ad) = (as.map (zv ad)).reverse ++ s9.map (zv ad) ∧ as.length = k ∧ ∀ n, zws n st → zws n as ∧ zws n s9 := by
  obtain ⟨h1, h2⟩ := zpop_spec k [] st as s9 h
  have h1' : as.reverse ++ s9 = st := h1
  refine ⟨?_, h2, fun n hw => ⟨fun v hv => hw v ?_, fun v hv => hw v ?_⟩⟩
  · rw [← h1', List.map_append, List.map_reverse]
  · rw [← h1']; exact List.mem_append_left _ (List.mem_reverse.mpr hv)
  · rw [← h1']; exact List.mem_append_right _ hv
end ZCall
end
section
/-! each kind of call -/
section ZCall
variable {p : Program} {l : Launch} {e : Env} {R : Room} {s : State} {m : MethodId} {args : Array Value} {below : List Frame} {meth : Method} {c : Code} {Qf : State → Prop}
variable {cc : ByteArray} {nL : Nat} {Ts : List Cond} {own SC : String} {D : va_G} {cl : List vw_C} {dA : Nat → ClassId} {A : Nat → Prop} {ad0 : Nat → Nat} {n0 : Nat}
variable {St : List (String × Nat × String)} {Nw : List Cond} {Nc : List (String × String)} {MT : zMT}
variable {R' : zQ} {pc : Nat}

theorem zW_get9 {dA : Nat → ClassId} {ad : Nat → Nat} {h : zH} {n b ci : Nat} {fs : List Value} (hb : h b = .inr (ci, fs)) (hl : b < n) : (zW dA ad h n)[b]? = some (ad b, .inr (ci, fs.map (zv ad))) := by
  have := zW_get (dA := dA) (ad := ad) (h := h) hl
  rwa [hb] at this
theorem zs_callS (F : CallFix p m c cc nL s args Ts own) (hNw : Nw.all zst = true) (hA : ∀ q, s.heap.size ≤ q → A q) (hK : va_K D cl (zTys dA SC) s) (hE : zEnv St Nw Nc SC A s s.heap) {y np index nx : Nat} {bytes : ByteArray} {maxL : Nat} {ret : Option FieldType} (hc9 : zcal MT Ts y bytes maxL ret np) (hroom : zroom R (MT y).2.2 maxL = true) (h0 : (MT y).2.2.cells = 0 ∧ (MT y).2.2.slots = 0) (hlink : Cond.methodLink own index (MT y).1 ∈ Ts) (hst : Cond.static (MT y).1 ∈ Ts) (hd : decode cc pc = .ok (.invokestatic index, 3)) (hn : pc + 3 = nx) : zSnd (zConc p l e R s m args below meth c Qf nL D cl dA A ad0 n0) (zMet l D cl dA SC St Nw Nc MT) R' pc (zt_call y np nx) := by
  intro ls st h n cu su ht hw hr hnn ad H locs lsA ha hP hD hS hl
  unfold zt_call at ht
  cases hz : zpop np [] st with
  | none => simp only [hz] at ht
  | some q =>
    obtain ⟨as, s9⟩ := q
    obtain ⟨hsp, hlen, hws⟩ := zpop_split (ad := ad) hz
    obtain ⟨hwa, hw9⟩ := hws n hw.2.1
    simp only [hz] at ht
    cases hk : zsm s9 8 with
    | false => simp only [hk] at ht
    | true =>
      simp only [hk] at ht
      have h8 := zsm_ok s9 8 hk
      rw [hsp]
      have hM := (ht hwa hw.2.2 ad H.size).met zback_noX
      obtain ⟨hfb, hpre⟩ := zpre_at (as := as) hNw hA hK hE hP hD hS
      refine z_back (D := D) (cl := cl) (mc := 0) (ms := 0) (av := (as.map (zv ad)).toArray) hA hn ⟨hw.1, hw9⟩ hr hnn ha hD hS hl ?_
      rw [h0.1, h0.2] at hM
      exact va_runS (g := F0 m pc lsA ((as.map (zv ad)).reverse ++ s9.map (zv ad))) F hM ⟨callB_of (mc := 0) (ms := 0) np F.2.2.2.2 hc9.2.1 hc9.1 h0.1 h0.2 (F.2.2.2.2 _ hc9.2.2.2) (F.2.2.2.2 _ hlink) hc9.2.2.1 (zroom_ok hroom), F.2.2.2.2 _ hst⟩ ⟨hfb, hpre⟩ rfl (by rw [List.length_map]; exact hlen) hl.1 rfl (lv_room (by rw [zsm_map]; exact h8)) hd hr
theorem zs_callV (F : CallFix p m c cc nL s args Ts own) (hNw : Nw.all zst = true) (hA : ∀ q, s.heap.size ≤ q → A q) (hK : va_K D cl (zTys dA SC) s) (hE : zEnv St Nw Nc SC A s s.heap) {y np index nx : Nat} {bytes : ByteArray} {maxL : Nat} {ret : Option FieldType} (hc9 : zcal MT Ts y bytes maxL ret np) (hroom : zroom R (MT y).2.2 maxL = true) (h0 : (MT y).2.2.cells = 0 ∧ (MT y).2.2.slots = 0) (hlink : Cond.methodLink own index (MT y).1 ∈ Ts) {ci : Nat} {Cn : String} {T : u_T} {N : Nat} (hc : cl[ci]? = some (Cn, T, N)) (hin : Cond.instanceMethod (MT y).1 ∈ Ts) (hse : Cond.selects Cn (MT y).1 (MT y).1 ∈ Ts) (hd : decode cc pc = .ok (.invokevirtual index, 3)) (hn : pc + 3 = nx) : zSnd (zConc p l e R s m args below meth c Qf nL D cl dA A ad0 n0) (zMet l D cl dA SC St Nw Nc MT) R' pc (zt_callv ci y (np + 1) nx) := by
  intro ls st h n cu su ht hw hr hnn ad H locs lsA ha hP hD hS hl
  unfold zt_callv at ht
  cases hz : zpop (np + 1) [] st with
  | none => simp only [hz] at ht
  | some q =>
    obtain ⟨as, s9⟩ := q
    obtain ⟨hsp, hlen, hws⟩ := zpop_split (ad := ad) hz
    obtain ⟨hwa, hw9⟩ := hws n hw.2.1
    rcases as with _ | ⟨v9, as⟩
    · simp only [hz] at ht
    cases v9 with
    | int _ => simp only [hz] at ht
    | long _ => simp only [hz] at ht
    | float _ => simp only [hz] at ht
    | double _ => simp only [hz] at ht
    | null => simp only [hz] at ht
    | retAddr _ => simp only [hz] at ht
    | ref b =>
      simp only [hz] at ht
      cases hk : zsm s9 8 with
      | false => simp only [hk] at ht
      | true =>
        simp only [hk] at ht
        have h8 := zsm_ok s9 8 hk
        obtain ⟨fs, hb9, ht⟩ := ht
        rw [hsp]
        have hM := (ht hwa hw.2.2 ad H.size).met zback_noX
        obtain ⟨hfb, hpre⟩ := zpre_at (as := .ref b :: as) hNw hA hK hE hP hD hS
        refine z_back (D := D) (cl := cl) (mc := 0) (ms := 0) (av := (Value.ref (ad b) :: as.map (zv ad)).toArray) hA hn ⟨hw.1, hw9⟩ hr hnn ha hD hS hl ?_
        rw [h0.1, h0.2] at hM
        exact va_runV (C := Cn) (b := ad b) (As := as.map (zv ad)) F hM ⟨callB_of (mc := 0) (ms := 0) np F.2.2.2.2 hc9.2.1 hc9.1 h0.1 h0.2 (F.2.2.2.2 _ hc9.2.2.2) (F.2.2.2.2 _ hlink) hc9.2.2.1 (zroom_ok hroom), F.2.2.2.2 _ hin, F.2.2.2.2 _ hse⟩ ⟨hfb, va_recv hK hP hc (zW_get9 hb9 (zws_ref hwa)), hpre⟩ rfl (by rw [List.length_map]; exact Nat.succ.inj hlen) hl.1 (by show ((Value.ref (ad b) :: as.map (zv ad)).reverse ++ _) = _; rw [List.reverse_cons, List.append_assoc]; rfl) (lv_room (by rw [zsm_map]; exact h8)) hd hr
theorem zs_callVM (F : CallFix p m c cc nL s args Ts own) (hNw : Nw.all zst = true) (hA : ∀ q, s.heap.size ≤ q → A q) (hK : va_K D cl (zTys dA SC) s) (hE : zEnv St Nw Nc SC A s s.heap) {y np index nx : Nat} {bytes : ByteArray} {maxL : Nat} {ret : Option FieldType} (hc9 : zcal MT Ts y bytes maxL ret np) (hroom : zroom R (MT y).2.2 maxL = true) {mk sk : Nat} {lim : Nat × Nat} (hlim : lim.1 ≤ R.cells ∧ lim.2 ≤ R.slots) (hmk : (MT y).2.2.cells = mk ∧ (MT y).2.2.slots = sk) (hlink : Cond.methodLink own index (MT y).1 ∈ Ts) {ci : Nat} {Cn : String} {T : u_T} {N : Nat} (hc : cl[ci]? = some (Cn, T, N)) (hin : Cond.instanceMethod (MT y).1 ∈ Ts) (hse : Cond.selects Cn (MT y).1 (MT y).1 ∈ Ts) (hd : decode cc pc = .ok (.invokevirtual index, 3)) (hn : pc + 3 = nx) : zSnd (zConc p l e R s m args below meth c Qf nL D cl dA A ad0 n0) (zMet l D cl dA SC St Nw Nc MT) R' pc (zt_callvm ci y (np + 1) mk sk lim nx) := by
  intro ls st h n cu su ht hw hr hnn ad H locs lsA ha hP hD hS hl
  unfold zt_callvm at ht
  cases hz : zpop (np + 1) [] st with
  | none => simp only [hz] at ht
  | some q =>
    obtain ⟨as, s9⟩ := q
    obtain ⟨hsp, hlen, hws⟩ := zpop_split (ad := ad) hz
    obtain ⟨hwa, hw9⟩ := hws n hw.2.1
    rcases as with _ | ⟨v9, as⟩
    · simp only [hz] at ht
    cases v9 with
    | int _ => simp only [hz] at ht
    | long _ => simp only [hz] at ht
    | float _ => simp only [hz] at ht
    | double _ => simp only [hz] at ht
    | null => simp only [hz] at ht
    | retAddr _ => simp only [hz] at ht
    | ref b =>
      simp only [hz] at ht
      cases hk : zsm s9 8 with
      | false => simp only [hk] at ht
      | true =>
        simp only [hk] at ht
        have h8 := zsm_ok s9 8 hk
        obtain ⟨hfit, ht⟩ := ht
        obtain ⟨f1, f2⟩ := zfit_ok hfit
        obtain ⟨fs, hb9, ht⟩ := ht
        rw [hsp]
        have hM := (ht hwa hw.2.2 ad H.size).met zback_noX
        obtain ⟨hfb, hpre⟩ := zpre_at (as := .ref b :: as) hNw hA hK hE hP hD hS
        refine z_back (D := D) (cl := cl) (mc := mk) (ms := sk) (av := (Value.ref (ad b) :: as.map (zv ad)).toArray) hA hn ⟨hw.1, hw9⟩ ⟨Nat.le_trans f1 hlim.1, Nat.le_trans f2 hlim.2⟩ hnn ha hD hS hl ?_
        rw [hmk.1, hmk.2] at hM
        exact va_runV (C := Cn) (b := ad b) (As := as.map (zv ad)) F hM ⟨callB_of (mc := mk) (ms := sk) np F.2.2.2.2 hc9.2.1 hc9.1 hmk.1 hmk.2 (F.2.2.2.2 _ hc9.2.2.2) (F.2.2.2.2 _ hlink) hc9.2.2.1 (zroom_ok hroom), F.2.2.2.2 _ hin, F.2.2.2.2 _ hse⟩ ⟨hfb, va_recv hK hP hc (zW_get9 hb9 (zws_ref hwa)), hpre⟩ rfl (by rw [List.length_map]; exact Nat.succ.inj hlen) hl.1 (by show ((Value.ref (ad b) :: as.map (zv ad)).reverse ++ _) = _; rw [List.reverse_cons, List.append_assoc]; rfl) (lv_room (by rw [zsm_map]; exact h8)) hd ⟨Nat.le_trans f1 hlim.1, Nat.le_trans f2 hlim.2⟩
theorem zs_callI (F : CallFix p m c cc nL s args Ts own) (hNw : Nw.all zst = true) (hA : ∀ q, s.heap.size ≤ q → A q) (hK : va_K D cl (zTys dA SC) s) (hE : zEnv St Nw Nc SC A s s.heap) {y np index nx : Nat} {bytes : ByteArray} {maxL : Nat} {ret : Option FieldType} (hc9 : zcal MT Ts y bytes maxL ret np) (hroom : zroom R (MT y).2.2 maxL = true) (h0 : (MT y).2.2.cells = 0 ∧ (MT y).2.2.slots = 0) (hlink : Cond.methodLink own index (MT y).1 ∈ Ts) (hret : ret = none) (hni : (MT y).1.name = "<init>") (hin : Cond.instanceMethod (MT y).1 ∈ Ts) {ci : Nat} (hd : decode cc pc = .ok (.invokespecial index, 3)) (hn : pc + 3 = nx) : zSnd (zConc p l e R s m args below meth c Qf nL D cl dA A ad0 n0) (zMet l D cl dA SC St Nw Nc MT) R' pc (zt_callv ci y (np + 1) nx) := by
  intro ls st h n cu su ht hw hr hnn ad H locs lsA ha hP hD hS hl
  unfold zt_callv at ht
  cases hz : zpop (np + 1) [] st with
  | none => simp only [hz] at ht
  | some q =>
    obtain ⟨as, s9⟩ := q
    obtain ⟨hsp, hlen, hws⟩ := zpop_split (ad := ad) hz
    obtain ⟨hwa, hw9⟩ := hws n hw.2.1
    rcases as with _ | ⟨v9, as⟩
    · simp only [hz] at ht
    cases v9 with
    | int _ => simp only [hz] at ht
    | long _ => simp only [hz] at ht
    | float _ => simp only [hz] at ht
    | double _ => simp only [hz] at ht
    | null => simp only [hz] at ht
    | retAddr _ => simp only [hz] at ht
    | ref b =>
      simp only [hz] at ht
      cases hk : zsm s9 8 with
      | false => simp only [hk] at ht
      | true =>
        simp only [hk] at ht
        have h8 := zsm_ok s9 8 hk
        obtain ⟨fs, hb9, ht⟩ := ht
        rw [hsp]
        have hM := (ht hwa hw.2.2 ad H.size).met zback_noX
        obtain ⟨hfb, hpre⟩ := zpre_at (as := .ref b :: as) hNw hA hK hE hP hD hS
        refine z_back (D := D) (cl := cl) (mc := 0) (ms := 0) (av := (Value.ref (ad b) :: as.map (zv ad)).toArray) hA hn ⟨hw.1, hw9⟩ hr hnn ha hD hS hl ?_
        rw [h0.1, h0.2] at hM
        exact va_runI (b := ad b) (As := as.map (zv ad)) F (by subst hret; exact hM) ⟨by subst hret; exact callB_of (mc := 0) (ms := 0) np F.2.2.2.2 hc9.2.1 hc9.1 h0.1 h0.2 (F.2.2.2.2 _ hc9.2.2.2) (F.2.2.2.2 _ hlink) hc9.2.2.1 (zroom_ok hroom), hni, F.2.2.2.2 _ hin⟩ ⟨hfb, hpre⟩ rfl (by rw [List.length_map]; exact Nat.succ.inj hlen) hl.1 (by show ((Value.ref (ad b) :: as.map (zv ad)).reverse ++ _) = _; rw [List.reverse_cons, List.append_assoc]; rfl) (lv_room (by rw [zsm_map]; exact h8)) hd hr
theorem zs_callIM (F : CallFix p m c cc nL s args Ts own) (hNw : Nw.all zst = true) (hA : ∀ q, s.heap.size ≤ q → A q) (hK : va_K D cl (zTys dA SC) s) (hE : zEnv St Nw Nc SC A s s.heap) {y np index nx : Nat} {bytes : ByteArray} {maxL : Nat} {ret : Option FieldType} (hc9 : zcal MT Ts y bytes maxL ret np) (hroom : zroom R (MT y).2.2 maxL = true) {mk sk : Nat} {lim : Nat × Nat} (hlim : lim.1 ≤ R.cells ∧ lim.2 ≤ R.slots) (hmk : (MT y).2.2.cells = mk ∧ (MT y).2.2.slots = sk) (hlink : Cond.methodLink own index (MT y).1 ∈ Ts) (hret : ret = none) (hni : (MT y).1.name = "<init>") (hin : Cond.instanceMethod (MT y).1 ∈ Ts) {ci : Nat} (hd : decode cc pc = .ok (.invokespecial index, 3)) (hn : pc + 3 = nx) : zSnd (zConc p l e R s m args below meth c Qf nL D cl dA A ad0 n0) (zMet l D cl dA SC St Nw Nc MT) R' pc (zt_callvm ci y (np + 1) mk sk lim nx) := by
  intro ls st h n cu su ht hw hr hnn ad H locs lsA ha hP hD hS hl
  unfold zt_callvm at ht
  cases hz : zpop (np + 1) [] st with
  | none => simp only [hz] at ht
  | some q =>
    obtain ⟨as, s9⟩ := q
    obtain ⟨hsp, hlen, hws⟩ := zpop_split (ad := ad) hz
    obtain ⟨hwa, hw9⟩ := hws n hw.2.1
    rcases as with _ | ⟨v9, as⟩
    · simp only [hz] at ht
    cases v9 with
    | int _ => simp only [hz] at ht
    | long _ => simp only [hz] at ht
    | float _ => simp only [hz] at ht
    | double _ => simp only [hz] at ht
    | null => simp only [hz] at ht
    | retAddr _ => simp only [hz] at ht
    | ref b =>
      simp only [hz] at ht
      cases hk : zsm s9 8 with
      | false => simp only [hk] at ht
      | true =>
        simp only [hk] at ht
        have h8 := zsm_ok s9 8 hk
        obtain ⟨hfit, ht⟩ := ht
        obtain ⟨f1, f2⟩ := zfit_ok hfit
        obtain ⟨fs, hb9, ht⟩ := ht
        rw [hsp]
        have hM := (ht hwa hw.2.2 ad H.size).met zback_noX
        obtain ⟨hfb, hpre⟩ := zpre_at (as := .ref b :: as) hNw hA hK hE hP hD hS
        refine z_back (D := D) (cl := cl) (mc := mk) (ms := sk) (av := (Value.ref (ad b) :: as.map (zv ad)).toArray) hA hn ⟨hw.1, hw9⟩ ⟨Nat.le_trans f1 hlim.1, Nat.le_trans f2 hlim.2⟩ hnn ha hD hS hl ?_
        rw [hmk.1, hmk.2] at hM
        exact va_runI (b := ad b) (As := as.map (zv ad)) F (by subst hret; exact hM) ⟨by subst hret; exact callB_of (mc := mk) (ms := sk) np F.2.2.2.2 hc9.2.1 hc9.1 hmk.1 hmk.2 (F.2.2.2.2 _ hc9.2.2.2) (F.2.2.2.2 _ hlink) hc9.2.2.1 (zroom_ok hroom), hni, F.2.2.2.2 _ hin⟩ ⟨hfb, hpre⟩ rfl (by rw [List.length_map]; exact Nat.succ.inj hlen) hl.1 (by show ((Value.ref (ad b) :: as.map (zv ad)).reverse ++ _) = _; rw [List.reverse_cons, List.append_assoc]; rfl) (lv_room (by rw [zsm_map]; exact h8)) hd ⟨Nat.le_trans f1 hlim.1, Nat.le_trans f2 hlim.2⟩
theorem zs_callSN (F : CallFix p m c cc nL s args Ts own) (hNw : Nw.all zst = true) (hA : ∀ q, s.heap.size ≤ q → A q) (hK : va_K D cl (zTys dA SC) s) (hE : zEnv St Nw Nc SC A s s.heap) {y np index nx : Nat} {bytes : ByteArray} {maxL : Nat} {ret : Option FieldType} (hc9 : zcal MT Ts y bytes maxL ret np) (hroom : zroom R (MT y).2.2 maxL = true) (h0 : (MT y).2.2.cells = 0 ∧ (MT y).2.2.slots = 0) {host : String} (hlink : Cond.methodLinkNest own index (MT y).1 host ∈ Nw) (hst : Cond.static (MT y).1 ∈ Ts) (hd : decode cc pc = .ok (.invokestatic index, 3)) (hn : pc + 3 = nx) : zSnd (zConc p l e R s m args below meth c Qf nL D cl dA A ad0 n0) (zMet l D cl dA SC St Nw Nc MT) R' pc (zt_call y np nx) := by
  intro ls st h n cu su ht hw hr hnn ad H locs lsA ha hP hD hS hl
  unfold zt_call at ht
  cases hz : zpop np [] st with
  | none => simp only [hz] at ht
  | some q =>
    obtain ⟨as, s9⟩ := q
    obtain ⟨hsp, hlen, hws⟩ := zpop_split (ad := ad) hz
    obtain ⟨hwa, hw9⟩ := hws n hw.2.1
    simp only [hz] at ht
    cases hk : zsm s9 8 with
    | false => simp only [hk] at ht
    | true =>
      simp only [hk] at ht
      have h8 := zsm_ok s9 8 hk
      rw [hsp]
      have hM := (ht hwa hw.2.2 ad H.size).met zback_noX
      obtain ⟨hfb, hpre⟩ := zpre_at (as := as) hNw hA hK hE hP hD hS
      refine z_back (D := D) (cl := cl) (mc := 0) (ms := 0) (av := (as.map (zv ad)).toArray) hA hn ⟨hw.1, hw9⟩ hr hnn ha hD hS hl ?_
      rw [h0.1, h0.2] at hM
      exact va_runSN (g := F0 m pc lsA ((as.map (zv ad)).reverse ++ s9.map (zv ad))) F hM ⟨va_cnB (mc := 0) (ms := 0) np F.2.2.2.2 hc9.2.1 hc9.1 h0.1 h0.2 (hE.2.2.2.1 _ hlink) (F.2.2.2.2 _ hc9.2.2.2) hc9.2.2.1 (zroom_ok hroom), F.2.2.2.2 _ hst, trivial⟩ ⟨hfb, hpre⟩ rfl (by rw [List.length_map]; exact hlen) hl.1 rfl (lv_room (by rw [zsm_map]; exact h8)) hd hr
theorem zs_callIN (F : CallFix p m c cc nL s args Ts own) (hNw : Nw.all zst = true) (hA : ∀ q, s.heap.size ≤ q → A q) (hK : va_K D cl (zTys dA SC) s) (hE : zEnv St Nw Nc SC A s s.heap) {y np index nx : Nat} {bytes : ByteArray} {maxL : Nat} {ret : Option FieldType} (hc9 : zcal MT Ts y bytes maxL ret np) (hroom : zroom R (MT y).2.2 maxL = true) (h0 : (MT y).2.2.cells = 0 ∧ (MT y).2.2.slots = 0) {host : String} (hlink : Cond.methodLinkNest own index (MT y).1 host ∈ Nw) (hret : ret = none) (hni : (MT y).1.name = "<init>") (hin : Cond.instanceMethod (MT y).1 ∈ Ts) {ci : Nat} (hd : decode cc pc = .ok (.invokespecial index, 3)) (hn : pc + 3 = nx) : zSnd (zConc p l e R s m args below meth c Qf nL D cl dA A ad0 n0) (zMet l D cl dA SC St Nw Nc MT) R' pc (zt_callv ci y (np + 1) nx) := by
  intro ls st h n cu su ht hw hr hnn ad H locs lsA ha hP hD hS hl
  unfold zt_callv at ht
  cases hz : zpop (np + 1) [] st with
  | none => simp only [hz] at ht
  | some q =>
    obtain ⟨as, s9⟩ := q
    obtain ⟨hsp, hlen, hws⟩ := zpop_split (ad := ad) hz
    obtain ⟨hwa, hw9⟩ := hws n hw.2.1
    rcases as with _ | ⟨v9, as⟩
    · simp only [hz] at ht
    cases v9 with
    | int _ => simp only [hz] at ht
    | long _ => simp only [hz] at ht
    | float _ => simp only [hz] at ht
    | double _ => simp only [hz] at ht
    | null => simp only [hz] at ht
    | retAddr _ => simp only [hz] at ht
    | ref b =>
      simp only [hz] at ht
      cases hk : zsm s9 8 with
      | false => simp only [hk] at ht
      | true =>
        simp only [hk] at ht
        have h8 := zsm_ok s9 8 hk
        obtain ⟨fs, hb9, ht⟩ := ht
        rw [hsp]
        have hM := (ht hwa hw.2.2 ad H.size).met zback_noX
        obtain ⟨hfb, hpre⟩ := zpre_at (as := .ref b :: as) hNw hA hK hE hP hD hS
        refine z_back (D := D) (cl := cl) (mc := 0) (ms := 0) (av := (Value.ref (ad b) :: as.map (zv ad)).toArray) hA hn ⟨hw.1, hw9⟩ hr hnn ha hD hS hl ?_
        rw [h0.1, h0.2] at hM
        exact va_runIN (b := ad b) (As := as.map (zv ad)) F (by subst hret; exact hM) ⟨by subst hret; exact va_cnB (mc := 0) (ms := 0) np F.2.2.2.2 hc9.2.1 hc9.1 h0.1 h0.2 (hE.2.2.2.1 _ hlink) (F.2.2.2.2 _ hc9.2.2.2) hc9.2.2.1 (zroom_ok hroom), hni, F.2.2.2.2 _ hin⟩ ⟨hfb, hpre⟩ rfl (by rw [List.length_map]; exact Nat.succ.inj hlen) hl.1 (by show ((Value.ref (ad b) :: as.map (zv ad)).reverse ++ _) = _; rw [List.reverse_cons, List.append_assoc]; rfl) (lv_room (by rw [zsm_map]; exact h8)) hd hr
theorem zs_callINM (F : CallFix p m c cc nL s args Ts own) (hNw : Nw.all zst = true) (hA : ∀ q, s.heap.size ≤ q → A q) (hK : va_K D cl (zTys dA SC) s) (hE : zEnv St Nw Nc SC A s s.heap) {y np index nx : Nat} {bytes : ByteArray} {maxL : Nat} {ret : Option FieldType} (hc9 : zcal MT Ts y bytes maxL ret np) (hroom : zroom R (MT y).2.2 maxL = true) {mk sk : Nat} {lim : Nat × Nat} (hlim : lim.1 ≤ R.cells ∧ lim.2 ≤ R.slots) (hmk : (MT y).2.2.cells = mk ∧ (MT y).2.2.slots = sk) {host : String} (hlink : Cond.methodLinkNest own index (MT y).1 host ∈ Nw) (hret : ret = none) (hni : (MT y).1.name = "<init>") (hin : Cond.instanceMethod (MT y).1 ∈ Ts) {ci : Nat} (hd : decode cc pc = .ok (.invokespecial index, 3)) (hn : pc + 3 = nx) : zSnd (zConc p l e R s m args below meth c Qf nL D cl dA A ad0 n0) (zMet l D cl dA SC St Nw Nc MT) R' pc (zt_callvm ci y (np + 1) mk sk lim nx) := by
  intro ls st h n cu su ht hw hr hnn ad H locs lsA ha hP hD hS hl
  unfold zt_callvm at ht
  cases hz : zpop (np + 1) [] st with
  | none => simp only [hz] at ht
  | some q =>
    obtain ⟨as, s9⟩ := q
    obtain ⟨hsp, hlen, hws⟩ := zpop_split (ad := ad) hz
    obtain ⟨hwa, hw9⟩ := hws n hw.2.1
    rcases as with _ | ⟨v9, as⟩
    · simp only [hz] at ht
    cases v9 with
    | int _ => simp only [hz] at ht
    | long _ => simp only [hz] at ht
    | float _ => simp only [hz] at ht
    | double _ => simp only [hz] at ht
    | null => simp only [hz] at ht
    | retAddr _ => simp only [hz] at ht
    | ref b =>
      simp only [hz] at ht
      cases hk : zsm s9 8 with
      | false => simp only [hk] at ht
      | true =>
        simp only [hk] at ht
        have h8 := zsm_ok s9 8 hk
        obtain ⟨hfit, ht⟩ := ht
        obtain ⟨f1, f2⟩ := zfit_ok hfit
        obtain ⟨fs, hb9, ht⟩ := ht
        rw [hsp]
        have hM := (ht hwa hw.2.2 ad H.size).met zback_noX
        obtain ⟨hfb, hpre⟩ := zpre_at (as := .ref b :: as) hNw hA hK hE hP hD hS
        refine z_back (D := D) (cl := cl) (mc := mk) (ms := sk) (av := (Value.ref (ad b) :: as.map (zv ad)).toArray) hA hn ⟨hw.1, hw9⟩ ⟨Nat.le_trans f1 hlim.1, Nat.le_trans f2 hlim.2⟩ hnn ha hD hS hl ?_
        rw [hmk.1, hmk.2] at hM
        exact va_runIN (b := ad b) (As := as.map (zv ad)) F (by subst hret; exact hM) ⟨by subst hret; exact va_cnB (mc := mk) (ms := sk) np F.2.2.2.2 hc9.2.1 hc9.1 hmk.1 hmk.2 (hE.2.2.2.1 _ hlink) (F.2.2.2.2 _ hc9.2.2.2) hc9.2.2.1 (zroom_ok hroom), hni, F.2.2.2.2 _ hin⟩ ⟨hfb, hpre⟩ rfl (by rw [List.length_map]; exact Nat.succ.inj hlen) hl.1 (by show ((Value.ref (ad b) :: as.map (zv ad)).reverse ++ _) = _; rw [List.reverse_cons, List.append_assoc]; rfl) (lv_room (by rw [zsm_map]; exact h8)) hd ⟨Nat.le_trans f1 hlim.1, Nat.le_trans f2 hlim.2⟩
end ZCall
end
section
/-! a call that may throw; throws; returns; a method out of its table -/
theorem zhs_mem : ∀ (hs : List (Nat × Nat × Nat)) (e : Nat) (q : Nat × Nat), zhs hs e = some q → (e, q.1, q.2) ∈ hs := by
  intro hs
  induction hs with
  | nil => intro e q h; exact nomatch h
  | cons a hs ih =>
    intro e q h
    obtain ⟨x, i, tgt⟩ := a
    unfold zhs at h
    cases hb : Nat.beq x e with
    | true =>
      simp only [hb] at h
      cases h
      rw [Nat.eq_of_beq_eq_true hb]
      exact List.mem_cons_self
    | false =>
      simp only [hb] at h
      exact List.mem_cons_of_mem _ (ih e q h)
theorem zl_drop {ad : Nat → Nat} {ls : zL} {lsA : Array Slot} {nL i : Nat} {w : Value} (hk : zok ls i = true) (hl : lv_has lsA nL ((i, w) :: (zlv ad 0 ls).filter (fun q => !(q.1 == i) && !(q.1 + 1 == i && q.2.category == 2)))) : lv_has lsA nL (zlv ad 0 (zclr ls i)) := by
  refine ⟨hl.1, hl.2.1, fun q hq => ?_⟩
  obtain ⟨j, w, h1, rfl⟩ := (zlv_mem 0 q).mp hq
  rw [Nat.zero_add]
  obtain ⟨hne, h2⟩ := zget_clr h1
  refine hl.2.2 _ (List.mem_cons_of_mem _ (List.mem_filter.mpr ⟨(zlv_mem 0 _).mpr ⟨j, w, h2, by rw [Nat.zero_add]⟩, ?_⟩))
  by_cases hc : w.category = 2
  · have h3 := zok_at hk h2 hc
    simp [hne, h3]
  · simp [hne, zcat, hc]
/-- a row of the handlers' table takes the kind e at this place, and its handler drops it into the local i -/
def zhand (own : String) (Ts Nw : List Cond) (Nc : List (String × String)) (tb : List ExceptionTableEntry) (cc : ByteArray) (nL pc e i tgt : Nat) : Prop :=
  ∃ (pre : List ExceptionTableEntry) (x : ExceptionTableEntry) (suf : List ExceptionTableEntry), tb = pre ++ x :: suf ∧ (∀ z ∈ pre, covers z pc = false ∨ (z.catchType ≠ 0 ∧ ∃ nm : String, Cond.classLink own z.catchType nm ∈ Ts ∧ (zxn e, nm) ∈ Nc)) ∧ covers x pc = true ∧ x.catchType ≠ 0 ∧ Cond.classLink own x.catchType (zxn e) ∈ Ts ∧ Cond.castable (zxn e) (zxn e) ∈ Nw ∧ i < nL ∧
    ((∃ k : Fin 4, (k : Nat) = i ∧ decode cc x.handlerPc = .ok (.astore_n k, 1) ∧ x.handlerPc + 1 = tgt) ∨ (decode cc x.handlerPc = .ok (.astore i, 2) ∧ x.handlerPc + 2 = tgt))
section ZCall
variable {p : Program} {l : Launch} {e : Env} {R : Room} {s : State} {m : MethodId} {args : Array Value} {below : List Frame} {meth : Method} {c : Code} {Qf : State → Prop}
variable {cc : ByteArray} {nL : Nat} {Ts : List Cond} {own SC : String} {D : va_G} {cl : List vw_C} {dA : Nat → ClassId} {A : Nat → Prop} {ad0 : Nat → Nat} {n0 : Nat}
variable {St : List (String × Nat × String)} {Nw : List Cond} {Nc : List (String × String)} {MT : zMT}
variable {R' : zQ} {pc : Nat}
theorem zs_callX (F : CallFix p m c cc nL s args Ts own) (hNw : Nw.all zst = true) (hA : ∀ q, s.heap.size ≤ q → A q) (hK : va_K D cl (zTys dA SC) s) (hE : zEnv St Nw Nc SC A s s.heap) {y np index nx : Nat} {bytes : ByteArray} {maxL : Nat} {ret : Option FieldType} (hc9 : zcal MT Ts y bytes maxL ret np) (hroom : zroom R (MT y).2.2 maxL = true) {mk sk : Nat} {lim : Nat × Nat} (hlim : lim.1 ≤ R.cells ∧ lim.2 ≤ R.slots) (hmk : (MT y).2.2.cells = mk ∧ (MT y).2.2.slots = sk) (hlink : Cond.methodLink own index (MT y).1 ∈ Ts) {ci : Nat} {Cn : String} {T : u_T} {N : Nat} (hc : cl[ci]? = some (Cn, T, N)) (hin : Cond.instanceMethod (MT y).1 ∈ Ts) (hse : Cond.selects Cn (MT y).1 (MT y).1 ∈ Ts)
    {hs : List (Nat × Nat × Nat)} (hh : ∀ q ∈ hs, zhand own Ts Nw Nc c.exceptionTable.toList cc nL pc q.1 q.2.1 q.2.2) (hd : decode cc pc = .ok (.invokevirtual index, 3)) (hn : pc + 3 = nx) : zSnd (zConc p l e R s m args below meth c Qf nL D cl dA A ad0 n0) (zMet l D cl dA SC St Nw Nc MT) R' pc (zt_callx ci y (np + 1) mk sk lim hs nx) := by
  intro ls st h n cu su ht hw hr hnn ad H locs lsA ha hP hD hS hl
  subst hn
  unfold zt_callx at ht
  cases hz : zpop (np + 1) [] st with
  | none => simp only [hz] at ht
  | some q =>
    obtain ⟨as, s9⟩ := q
    obtain ⟨hsp, hlen, hws⟩ := zpop_split (ad := ad) hz
    obtain ⟨hwa, hw9⟩ := hws n hw.2.1
    rcases as with _ | ⟨v9, as⟩
    · simp only [hz] at ht
    cases v9 with
    | int _ => simp only [hz] at ht
    | long _ => simp only [hz] at ht
    | float _ => simp only [hz] at ht
    | double _ => simp only [hz] at ht
    | null => simp only [hz] at ht
    | retAddr _ => simp only [hz] at ht
    | ref b =>
      simp only [hz] at ht
      cases hk : zsm s9 8 with
      | false => simp only [hk] at ht
      | true =>
        simp only [hk] at ht
        have h8 := zsm_ok s9 8 hk
        obtain ⟨hfit, ht⟩ := ht
        obtain ⟨f1, f2⟩ := zfit_ok hfit
        obtain ⟨fs, hb9, ht⟩ := ht
        rw [hsp]
        have hM := ht hwa hw.2.2 ad H.size
        rw [hmk.1, hmk.2] at hM
        obtain ⟨hfb, hpre⟩ := zpre_at (as := .ref b :: as) hNw hA hK hE hP hD hS
        have hrun := vx_runV (e := e) (below := below) (meth := meth) (p := p) (C := Cn) (b := ad b) (As := as.map (zv ad)) (rest := s9.map (zv ad)) (g := F0 m pc lsA (((Value.ref b :: as).map (zv ad)).reverse ++ s9.map (zv ad))) (locs := locs) (cells := cu) (slots := su) F hM ⟨callB_of (mc := mk) (ms := sk) np F.2.2.2.2 hc9.2.1 hc9.1 hmk.1 hmk.2 (F.2.2.2.2 _ hc9.2.2.2) (F.2.2.2.2 _ hlink) hc9.2.2.1 (zroom_ok hroom), F.2.2.2.2 _ hin, F.2.2.2.2 _ hse⟩ ⟨hfb, va_recv hK hP hc (zW_get9 hb9 (zws_ref hwa)), hpre⟩ rfl (by rw [List.length_map]; exact Nat.succ.inj hlen) hl.1 (by show ((Value.ref (ad b) :: as.map (zv ad)).reverse ++ _) = _; rw [List.reverse_cons, List.append_assoc]; rfl) (lv_room (by rw [zsm_map]; exact h8)) hd ⟨Nat.le_trans f1 hlim.1, Nat.le_trans f2 hlim.2⟩
        intro T hT X
        rcases hrun T hT X with ⟨v, st₀, t, T', L, h0, X', hL, e1, e2, ⟨r, h', n', ad', hv, hQ, hwr, hle, hag, hwh', hP', hD', hF⟩, stp⟩ | ⟨q, st₀, t, T', L, E, ce, h0, X', hL, e1, e2, ⟨x, h', n', ad', hxE, hx3, hQ, hle, hag, hwh', hP', hD', hF⟩, hce, hcv, hcl, stp⟩
        · obtain ⟨-, -, hS'⟩ := vx_keep (A1 := va_A (zW dA ad h n) H.size) h0 e1 hS (fun q _ hq => zfree hA hD hS q hq) (fun q hq => zfree hA hD hS q hq) hL hF
          cases hv
          have hl' : lv_has lsA nL (zlv ad' 0 ls) := zlv_agree hag hw.1 hl
          have hD2 : va_D A (zW dA ad' h' n') := hD'.weaken (fun _ q _ hq => zfree hA hD hS q.1 hq)
          have ha' : ∀ i, i < n0 → ad' i = ad0 i := fun i hi => (hag i (Nat.lt_of_lt_of_le hi hnn)).trans (ha i hi)
          rw [← e1] at hP'
          have hrest : s9.map (zv ad') = s9.map (zv ad) := zvs_agree hag hw9
          cases r with
          | none =>
            obtain ⟨t2, a1, b1⟩ := hQ ⟨zwl_up hw.1 hle, zws_up hw9 hle, hwh'⟩ ⟨Nat.le_trans f1 hlim.1, Nat.le_trans f2 hlim.2⟩ (Nat.le_trans hnn hle) ad' T'.heap (locs ++ L) lsA ha' hP' hD2 hS' hl' T' rfl X'
            rw [hrest] at a1
            exact ⟨t2, stp t2 a1, b1⟩
          | some w =>
            obtain ⟨t2, a1, b1⟩ := hQ ⟨zwl_up hw.1 hle, zws_cons (hwr w rfl) (zws_up hw9 hle), hwh'⟩ ⟨Nat.le_trans f1 hlim.1, Nat.le_trans f2 hlim.2⟩ (Nat.le_trans hnn hle) ad' T'.heap (locs ++ L) lsA ha' hP' hD2 hS' hl' T' rfl X'
            rw [List.map_cons, hrest] at a1
            exact ⟨t2, stp t2 a1, b1⟩
        · obtain ⟨hz9, -, hS'⟩ := vx_keep (A1 := va_A (zW dA ad h n) H.size) h0 e1 hS (fun q _ hq => zfree hA hD hS q hq) (fun q hq => zfree hA hD hS q hq) hL hF
          have hl' : lv_has lsA nL (zlv ad' 0 ls) := zlv_agree hag hw.1 hl
          have hD2 : va_D A (zW dA ad' h' n') := hD'.weaken (fun _ q _ hq => zfree hA hD hS q.1 hq)
          have ha' : ∀ i, i < n0 → ad' i = ad0 i := fun i hi => (hag i (Nat.lt_of_lt_of_le hi hnn)).trans (ha i hi)
          rw [← e1] at hP' hce
          subst hxE
          unfold zbackx at hQ
          simp only at hQ
          cases hq9 : zhs hs x with
          | none => simp only [hq9] at hQ
          | some it =>
            obtain ⟨i, tgt⟩ := it
            simp only [hq9] at hQ
            cases hko : zok ls i with
            | false => simp only [hko] at hQ
            | true =>
              simp only [hko] at hQ
              obtain ⟨pre, x9, suf, hsplit, hpass, hcov, hct, hcl9, hca, hi, hdec⟩ := hh _ (zhs_mem hs x (i, tgt) hq9)
              have hcast : (Cond.castable (zxn x) (zxn x)).before args s = true := va_Nw.use rfl (hE.2.2.2.1 _ hca)
              have hkk : W p l e R s m args below meth c T'.heap (locs ++ L) (cu + mk) (su + sk) Qf (F0 m x9.handlerPc lsA [.ref q]) := by
                rcases hdec with ⟨k, hki, hda, htg⟩ | ⟨hda, htg⟩
                · subst htg
                  exact lv_astore_n F.1 F.2.1 hda hki hl' hi rfl fun ls' hl9 => hQ ⟨zwl_clr (zwl_up hw.1 hle), zws_nil, hwh'⟩ ⟨Nat.le_trans f1 hlim.1, Nat.le_trans f2 hlim.2⟩ (Nat.le_trans hnn hle) ad' T'.heap (locs ++ L) ls' ha' hP' hD2 hS' (zl_drop hko hl9)
                · subst htg
                  exact lv_astore F.1 F.2.1 hda hl' hi rfl fun ls' hl9 => hQ ⟨zwl_clr (zwl_up hw.1 hle), zws_nil, hwh'⟩ ⟨Nat.le_trans f1 hlim.1, Nat.le_trans f2 hlim.2⟩ (Nat.le_trans hnn hle) ad' T'.heap (locs ++ L) ls' ha' hP' hD2 hS' (zl_drop hko hl9)
              obtain ⟨t2, a1, b1⟩ := vx_catch (rest := s9.map (zv ad)) (ls := lsA) F.2.2.2.1 pre x9 suf hsplit (fun z hz => (hpass z hz).imp id fun ⟨g1, nm, g2, g3⟩ => ⟨g1, nm, F.2.2.2.2 _ g2, hE.2.2.2.2.1 _ g3⟩) hcov hct (F.2.2.2.2 _ hcl9) hcast hce hcv hcl hkk T' rfl X'
              exact ⟨t2, stp.trans a1, b1⟩
end ZCall
end
section
/-! ends of a method; a method out of its table -/
section ZEnds
variable {p : Program} {l : Launch} {e : Env} {R : Room} {s : State} {m : MethodId} {args : Array Value} {below : List Frame} {meth : Method} {c : Code}
variable {cc : ByteArray} {nL : Nat} {Ts : List Cond} {own SC : String} {D : va_G} {cl : List vw_C} {dA : Nat → ClassId} {ad0 : Nat → Nat} {n0 : Nat} {h0 : zH}
variable {St : List (String × Nat × String)} {Nw : List Cond} {Nc : List (String × String)}
variable {C : zK} {R' : zQ} {pc : Nat}
/-- what a method's body owes at its end -/
abbrev zQf (R : Room) (s : State) (args : Array Value) (below : List Frame) (D : va_G) (cl : List vw_C) (dA : Nat → ClassId) (ad0 : Nat → Nat) (h0 : zH) (n0 : Nat) (R' : zQ) : State → Prop :=
  vx_MQ below (zQc D cl dA ad0 h0 n0 s.heap.size R') (zXC D cl dA ad0 h0 n0 s.heap.size R') args s R.cells R.slots (va_A (zW dA ad0 h0 n0) s.heap.size)
theorem zs_endQ {n : Nat} {h : zH} {ad : Nat → Nat} {H : Heap} {locs : List Loc} {r : Option Value} (hR : R' 0 r h n) (hwr : ∀ v, r = some v → zwv n v) (hwh : zwh n h) (hnn : n0 ≤ n) (ha : ∀ i, i < n0 → ad i = ad0 i) (hP : va_P D cl (zW dA ad h n) H) (hD : va_D (va_A (zW dA ad0 h0 n0) s.heap.size) (zW dA ad h n)) (hS : va_S (va_A (zW dA ad0 h0 n0) s.heap.size) s.heap H locs) :
    ∀ t : State, t.heap = H → s.WarmedH t.vm → zQc D cl dA ad0 h0 n0 s.heap.size R' args s (.returned (r.map (zv ad))) t :=
  fun t ht _ => ⟨r, h, n, ad, rfl, hR, hwr, hnn, ha, hwh, by rw [ht]; exact hP, hD, hS.F ht⟩
theorem zs_iret (F : CallFix p m c cc nL s args Ts own) (hr9 : meth.sig.returnType = some .int) (hlk : meth.locks = false) (hd : decode cc pc = .ok (.ireturn, 1)) : zSnd (zConc p l e R s m args below meth c (zQf R s args below D cl dA ad0 h0 n0 R') nL D cl dA (va_A (zW dA ad0 h0 n0) s.heap.size) ad0 n0) C R' pc zt_iret := by
  intro ls st h n cu su ht hw hr hnn ad H locs lsA ha hP hD hS hl
  match st, ht, hw with
  | [.int v], ht, hw => exact W.widen hr.1 hr.2 (vx_ret (W.iret F.1 F.2.1 hr9 (zs_endQ (r := some (.int v)) ht (fun w hw => by cases hw; exact zwv_int) hw.2.2 hnn ha hP hD hS) hS.2.2 hd hlk))
theorem zs_zret (F : CallFix p m c cc nL s args Ts own) (hr9 : meth.sig.returnType = some .boolean) (hlk : meth.locks = false) (hd : decode cc pc = .ok (.ireturn, 1)) : zSnd (zConc p l e R s m args below meth c (zQf R s args below D cl dA ad0 h0 n0 R') nL D cl dA (va_A (zW dA ad0 h0 n0) s.heap.size) ad0 n0) C R' pc zt_zret := by
  intro ls st h n cu su ht hw hr hnn ad H locs lsA ha hP hD hS hl
  match st, ht, hw with
  | [.int v], ht, hw => exact W.widen hr.1 hr.2 (vx_ret (W.zret F.1 F.2.1 hr9 (by rcases ht.1 with rfl | rfl <;> rfl) (zs_endQ (r := some (.int v)) ht.2 (fun w hw => by cases hw; exact zwv_int) hw.2.2 hnn ha hP hD hS) hS.2.2 hd hlk))
theorem zs_lret (F : CallFix p m c cc nL s args Ts own) (hr9 : meth.sig.returnType = some .long) (hlk : meth.locks = false) (hd : decode cc pc = .ok (.lreturn, 1)) : zSnd (zConc p l e R s m args below meth c (zQf R s args below D cl dA ad0 h0 n0 R') nL D cl dA (va_A (zW dA ad0 h0 n0) s.heap.size) ad0 n0) C R' pc zt_lret := by
  intro ls st h n cu su ht hw hr hnn ad H locs lsA ha hP hD hS hl
  match st, ht, hw with
  | [.long v], ht, hw => exact W.widen hr.1 hr.2 (vx_ret (W.lret F.1 F.2.1 hr9 (zs_endQ (r := some (.long v)) ht (fun w hw => by cases hw; exact zwv_long) hw.2.2 hnn ha hP hD hS) hS.2.2 hd hlk))
theorem zs_dret (F : CallFix p m c cc nL s args Ts own) (hr9 : meth.sig.returnType = some .double) (hlk : meth.locks = false) (hd : decode cc pc = .ok (.dreturn, 1)) : zSnd (zConc p l e R s m args below meth c (zQf R s args below D cl dA ad0 h0 n0 R') nL D cl dA (va_A (zW dA ad0 h0 n0) s.heap.size) ad0 n0) C R' pc zt_dret := by
  intro ls st h n cu su ht hw hr hnn ad H locs lsA ha hP hD hS hl
  match st, ht, hw with
  | [.double v], ht, hw => exact W.widen hr.1 hr.2 (vx_ret (W.dret F.1 F.2.1 hr9 (zs_endQ (r := some (.double v)) ht (fun w hw => by cases hw; exact zwv_double) hw.2.2 hnn ha hP hD hS) hS.2.2 hd hlk))
theorem zs_aret (F : CallFix p m c cc nL s args Ts own) {rt : FieldType} (hr9 : meth.sig.returnType = some rt) (hrt : (∃ n, rt = .object n) ∨ ∃ t, rt = .array t) (hlk : meth.locks = false) (hd : decode cc pc = .ok (.areturn, 1)) : zSnd (zConc p l e R s m args below meth c (zQf R s args below D cl dA ad0 h0 n0 R') nL D cl dA (va_A (zW dA ad0 h0 n0) s.heap.size) ad0 n0) C R' pc zt_aret := by
  intro ls st h n cu su ht hw hr hnn ad H locs lsA ha hP hD hS hl
  match st, ht, hw with
  | [.ref v], ht, hw => exact W.widen hr.1 hr.2 (vx_ret (W.aret F.1 F.2.1 hr9 hrt (Or.inr ⟨_, rfl⟩) (zs_endQ (r := some (.ref v)) ht (fun w hw2 => by cases hw2; exact zws_hd hw.2.1) hw.2.2 hnn ha hP hD hS) hS.2.2 hd hlk))
theorem zs_vret (F : CallFix p m c cc nL s args Ts own) (hr9 : meth.sig.returnType = none) (hlk : meth.locks = false) (hd : decode cc pc = .ok (.return_, 1)) : zSnd (zConc p l e R s m args below meth c (zQf R s args below D cl dA ad0 h0 n0 R') nL D cl dA (va_A (zW dA ad0 h0 n0) s.heap.size) ad0 n0) C R' pc zt_vret := by
  intro ls st h n cu su ht hw hr hnn ad H locs lsA ha hP hD hS hl
  match st, ht, hw with
  | [], ht, hw => exact W.widen hr.1 hr.2 (vx_ret (W.vret F.1 F.2.1 hr9 (zs_endQ (r := none) ht (fun w hw => nomatch hw) hw.2.2 hnn ha hP hD hS) hS.2.2 hd hlk))
/-- what a place that throws owes of the tables -/
def zthr (Ts Nw : List Cond) (own : String) (ik ic x : Nat) : Prop :=
  Cond.classLink own ik (zxn x) ∈ Ts ∧ Cond.initialized (zxn x) ∈ Ts ∧ (∀ w ∈ (vx_atS own ic (zxn x) ["java/lang/RuntimeException", "java/lang/Exception"]).filter goodWord, w ∈ Ts) ∧ (∀ w ∈ (vx_atS own ic (zxn x) ["java/lang/RuntimeException", "java/lang/Exception"]).filter (fun w => !goodWord w), w ∈ Nw ∧ w.onTables = true) ∧
  (∀ w ∈ Cond.classLink own ik (zxn x) :: Cond.initialized (zxn x) :: vx_atS own ic (zxn x) ["java/lang/RuntimeException", "java/lang/Exception"], vx_ot w = true) ∧ Bundle.fit (zxn x) = true ∧ (∀ n ∈ ["java/lang/RuntimeException", "java/lang/Exception"], Bundle.fit n = true)
theorem zs_throw (F : CallFix p m c cc nL s args Ts own) (hE : zEnv St Nw Nc SC (va_A (zW dA ad0 h0 n0) s.heap.size) s s.heap) (hlst : l.stackTraces = false) (hlk : meth.locks = false) {ik is ic x : Nat} {text : String} (hx3 : x < 3) (hth : zthr Ts Nw own ik ic x) (htx : (own, is, text) ∈ St) (hout : c.exceptionTable.toList = []) (hRf : 5 < R.frames) (hRl : 82 ≤ R.locals)
    (d0 : decode cc pc = .ok (.new ik, 3)) (d3 : decode cc (pc + 3) = .ok (.dup, 1)) (d4 : decode cc (pc + 4) = .ok (.ldc is, 2)) (d6 : decode cc (pc + 6) = .ok (.invokespecial ic, 3)) (d9 : decode cc (pc + 9) = .ok (.athrow, 1)) :
    zSnd (zConc p l e R s m args below meth c (zQf R s args below D cl dA ad0 h0 n0 R') nL D cl dA (va_A (zW dA ad0 h0 n0) s.heap.size) ad0 n0) C R' pc (zt_throw x (R.cells, R.slots)) := by
  intro ls st h n cu su ht hw hr hnn ad H locs lsA ha hP hD hS hl
  match st, ht, hw with
  | [], ht, hw =>
    obtain ⟨f1, f2⟩ := zfit_ok ht.1
    obtain ⟨sa, hsa⟩ := hE.2.2.1 _ htx
    obtain ⟨t1, t2, t3, t4, t5, t6, t7⟩ := hth
    refine vx_throwS (names := ["java/lang/RuntimeException", "java/lang/Exception"]) F.1 F.2.1 hlst F.2.2.2.1 t6 t7 (F.2.2.2.2 _ t1) (F.2.2.2.2 _ t2) hsa
      (vx_hat (B := (vx_atS own ic (zxn x) ["java/lang/RuntimeException", "java/lang/Exception"]).filter (fun w => !goodWord w)) (fun w hw => F.2.2.2.2 _ (t3 w hw)) (fun w hw => hw) (fun w hw => va_Nw.use (t4 w hw).2 (hE.2.2.2.1 _ (t4 w hw).1))) t5 hE.1 hE.2.1 hS (hl.1.trans F.2.2.1.symm) d0 d3 d4 d6 d9 (fun x hx => by rw [hout] at hx; exact nomatch hx) hRf hRl f1 f2 hlk (fun t hvm hz hk => ?_) hS.2.2 f1 f2
    exact ⟨x, h, n, ad, rfl, hx3, ht.2, hnn, ha, hw.2.2, hP.kept (fun k q hq => hk _ (hP k q hq).lt), hD, ⟨Nat.le_trans hS.1 hz, fun q h1 h2 => (hk q (Nat.lt_of_lt_of_le h1 hS.1)).trans (hS.2.1 q h1 h2)⟩⟩
end ZEnds
-- the locals at a method's entry
def zarg : List Value → zL
  | [] => []
  | v :: vs => match v with
    | .long _ => some v :: none :: zarg vs
    | .double _ => some v :: none :: zarg vs
    | _ => some v :: zarg vs
def zpad : Nat → zL → zL
  | 0, _ => []
  | k + 1, [] => none :: zpad k []
  | k + 1, a :: l => a :: zpad k l
def zent (k : Nat) (vs : List Value) : zL := zpad k (zarg vs)
theorem zget_pad : ∀ (k : Nat) (l : zL) (i : Nat) (v : Value), zget (zpad k l) i = some v → zget l i = some v := by
  intro k
  induction k with
  | zero => intro l i v h; exact nomatch h
  | succ k ih =>
    intro l i v h
    cases l with
    | nil =>
      cases i with
      | zero => exact nomatch h
      | succ i => exact ih [] i v h
    | cons a l =>
      cases i with
      | zero => exact h
      | succ i => exact ih l i v h
theorem zget_arg {n : Nat} : ∀ (vs : List Value), zws n vs → zwl n (zarg vs) := by
  intro vs
  induction vs with
  | nil => intro hw i v h; exact nomatch h
  | cons w vs ih =>
    intro hw i v h
    cases w with
    | long x =>
      match i, h with
      | 0, h => cases h; exact hw _ List.mem_cons_self
      | i + 2, h => exact ih (zws_tl hw) i v h
    | double x =>
      match i, h with
      | 0, h => cases h; exact hw _ List.mem_cons_self
      | i + 2, h => exact ih (zws_tl hw) i v h
    | _ =>
      match i, h with
      | 0, h => cases h; exact hw _ List.mem_cons_self
      | i + 1, h => exact ih (zws_tl hw) i v h
theorem zent_wl {n k : Nat} {vs : List Value} (h : zws n vs) : zwl n (zent k vs) := fun i v hv => zget_arg vs h i v (zget_pad k _ i v hv)
theorem zarg_args {ad : Nat → Nat} : ∀ (vs : List Value) (i : Nat), ∀ q ∈ zlv ad i (zarg vs), q ∈ lv_args i (vs.map (zv ad)) := by
  intro vs
  induction vs with
  | nil => intro i q hq; exact nomatch hq
  | cons v vs ih =>
    intro i q hq
    have hcat : (zv ad v).category = v.category := zcat ad v
    show q ∈ (i, zv ad v) :: lv_args (if (zv ad v).category = 2 then i + 2 else i + 1) (vs.map (zv ad))
    rw [hcat]
    cases v with
    | long x =>
      rcases List.mem_cons.mp hq with h | h
      · exact List.mem_cons.mpr (Or.inl h)
      · exact List.mem_cons_of_mem _ (ih (i + 2) q h)
    | double x =>
      rcases List.mem_cons.mp hq with h | h
      · exact List.mem_cons.mpr (Or.inl h)
      · exact List.mem_cons_of_mem _ (ih (i + 2) q h)
    | _ =>
      rcases List.mem_cons.mp hq with h | h
      · exact List.mem_cons.mpr (Or.inl h)
      · exact List.mem_cons_of_mem _ (ih (i + 1) q h)
theorem zent_has {ad : Nat → Nat} {k nL : Nat} {vs : List Value} {lsA : Array Slot} (hl : lv_has lsA nL (lv_args 0 (vs.map (zv ad)))) : lv_has lsA nL (zlv ad 0 (zent k vs)) := by
  refine ⟨hl.1, hl.2.1, fun q hq => ?_⟩
  obtain ⟨i, v, h1, rfl⟩ := (zlv_mem 0 q).mp hq
  exact hl.2.2 _ (zarg_args vs 0 _ ((zlv_mem 0 _).mpr ⟨i, v, zget_pad k _ i v h1, rfl⟩))
-- a method's table
theorem zlk_mem : ∀ (L : List (Nat × zT)) (pc : Nat) (t : zT), zlk L pc = some t → (pc, t) ∈ L := by
  intro L
  induction L with
  | nil => intro pc t h; exact nomatch h
  | cons a L ih =>
    intro pc t h
    obtain ⟨q, u⟩ := a
    unfold zlk at h
    cases hb : Nat.beq q pc with
    | true =>
      simp only [hb] at h
      cases h
      rw [Nat.eq_of_beq_eq_true hb]
      exact List.mem_cons_self
    | false =>
      simp only [hb] at h
      exact List.mem_cons_of_mem _ (ih pc t h)
theorem zfet_mem {T : List (List (Nat × zT))} {pc : Nat} {t : zT} (h : zfet T pc = some t) : ∃ L ∈ T, (pc, t) ∈ L := by
  unfold zfet at h
  cases hT : T[pc / 64]? with
  | none => simp only [hT] at h; exact nomatch h
  | some L =>
    simp only [hT] at h
    exact ⟨L, List.mem_of_getElem? hT, zlk_mem L pc t h⟩
/-- less known of the locals is less asked -/
def zfgt (P : zP) : Prop := ∀ pc ls ls' st h n cu su, (∀ i v, zget ls' i = some v → zget ls i = some v) → P pc ls' st h n cu su → P pc ls st h n cu su
theorem zConc_fgt {p : Program} {l : Launch} {e : Env} {R : Room} {s : State} {m : MethodId} {args : Array Value} {below : List Frame} {meth : Method} {c : Code} {Qf : State → Prop} {nL : Nat} {D : va_G} {cl : List vw_C} {dA : Nat → ClassId} {A : Nat → Prop} {ad0 : Nat → Nat} {n0 : Nat} : zfgt (zConc p l e R s m args below meth c Qf nL D cl dA A ad0 n0) :=
  fun pc ls ls' st h n cu su hsub hc hw hr hnn ad H locs lsA ha hP hD hS hl => hc ⟨fun i v hv => hw.1 i v (hsub i v hv), hw.2⟩ hr hnn ad H locs lsA ha hP hD hS (zl_sub hl hsub)
/-- all contracts of the table-driven machine: whoever is closed under the steps of a method's table bounds it -/
def zClosed (TT : Nat → Nat × List (List (Nat × zT))) (C : zK) : Prop :=
  (∀ y as h n (Q Q' : zQ), (∀ x r h n, Q x r h n → Q' x r h n) → C y as h n Q → C y as h n Q') ∧
  ∀ y as h n (Q : zQ), (∀ P : zP, (∀ pc ls st h n cu su, zstep (TT y).2 C Q P pc ls st h n cu su → P pc ls st h n cu su) → zfgt P → P 0 (zent (TT y).1 as) [] h n 0 0) → C y as h n Q
/-- a method whose table's every transformer is sound in every context has the contracts that the table gives -/
theorem z_meth {l : Launch} {D : va_G} {cl : List vw_C} {dA : Nat → ClassId} {SC : String} {St : List (String × Nat × String)} {Nw : List Cond} {Nc : List (String × String)} {MT : zMT} {Ts : List Cond} {k nL np : Nat} {cc : ByteArray} {ret : Option FieldType} {T : List (List (Nat × zT))}
    (hcal : zcal MT Ts k cc nL ret np) (hy : plainName (MT k).1.cls = true) {as : List Value} {h0 : zH} {n0 : Nat} {Q : zQ} (hlen : (lg_sl (as.map (zv (fun i => i)))).length ≤ nL)
    (hS : ∀ (ad0 : Nat → Nat) (p : Program) (e : Env) (s : State) (m : MethodId) (args : Array Value) (below : List Frame) (meth : Method) (c : Code),
      CallFix p m c cc nL s args Ts (MT k).1.cls → meth.sig.returnType = ret → meth.locks = false → meth.name = (MT k).1.name → c.exceptionTable.toList = [] → va_K D cl (zTys dA SC) s → zEnv St Nw Nc SC (va_A (zW dA ad0 h0 n0) s.heap.size) s s.heap →
      ∀ L ∈ T, ∀ q ∈ L, zSnd (zConc p l e (MT k).2.2 s m args below meth c (zQf (MT k).2.2 s args below D cl dA ad0 h0 n0 Q) nL D cl dA (va_A (zW dA ad0 h0 n0) s.heap.size) ad0 n0) (zMet l D cl dA SC St Nw Nc MT) Q q.1 q.2)
    (hP : ∀ P : zP, (∀ pc ls st h n cu su, zstep T (zMet l D cl dA SC St Nw Nc MT) Q P pc ls st h n cu su → P pc ls st h n cu su) → zfgt P → P 0 (zent nL as) [] h0 n0 0 0) : zMet l D cl dA SC St Nw Nc MT k as h0 n0 Q := by
  intro hwa hwh ad sz
  refine vx_ofW (cc := cc) (maxL := nL) (ret := ret) hy hcal.1 ?_
  intro p e s m args below meth c s₁ B hml htab hv
  obtain ⟨rfl, hsz, hP0, hK, hD0, hE⟩ := hv
  subst hsz
  have hts := atoms_spec (ws := (MT k).2.1) B.pre
  have hts' : ∀ w ∈ Ts, w.before _ s = true := fun w hw => hts w (by rw [hcal.1]; exact List.mem_cons_of_mem _ hw)
  have F : CallFix p m c cc nL s (as.map (zv ad)).toArray Ts (MT k).1.cls := ⟨B.exec, B.bytes, hml, findClass_of_methodNamed B.named, hts'⟩
  have htab' : c.exceptionTable.toList = [] := List.eq_nil_iff_forall_not_mem.mpr fun x hx => htab x hx
  have hSn := hS ad p e s m _ below meth c F B.returns B.notSynchronized (name_of_methodNamed B.named B.method).1 htab' hK hE
  have key := hP _ (fun pc ls st h n cu su hst => by
    unfold zstep at hst
    cases hf : zfet T pc with
    | none => simp only [hf] at hst
    | some t =>
      simp only [hf] at hst
      obtain ⟨L, hL, hm⟩ := zfet_mem hf
      exact hSn L hL _ hm ls st h n cu su hst) zConc_fgt
  have hlen' : (lg_sl (as.map (zv ad))).length ≤ nL := by
    have e1 : ∀ (f g : Nat → Nat) (vs : List Value), (lg_sl (vs.map (zv f))).length = (lg_sl (vs.map (zv g))).length := by
      intro f g vs
      induction vs with
      | nil => rfl
      | cons v vs ih =>
        unfold lg_sl at ih ⊢
        simp only [List.map_cons, List.flatMap_cons, List.length_append, ih]
        cases v <;> rfl
    rw [e1 ad (fun i => i)]
    exact hlen
  have hl := lv_entry (as.map (zv ad)) hlen'
  rw [lg_entry_eq]
  refine key ⟨zent_wl hwa, zws_nil, hwh⟩ ⟨Nat.zero_le _, Nat.zero_le _⟩ (Nat.le_refl _) ad s.heap [] _ (fun _ _ => rfl) hP0 hD0.self va_S.rf (zent_has hl)
end
section
/-! methods with handlers: as callees, and out of their tables; the words of the tables in one list -/
section ZCall
variable {p : Program} {l : Launch} {e : Env} {R : Room} {s : State} {m : MethodId} {args : Array Value} {below : List Frame} {meth : Method} {c : Code} {Qf : State → Prop}
variable {cc : ByteArray} {nL : Nat} {Ts : List Cond} {own SC : String} {D : va_G} {cl : List vw_C} {dA : Nat → ClassId} {A : Nat → Prop} {ad0 : Nat → Nat} {n0 : Nat}
variable {St : List (String × Nat × String)} {Nw : List Cond} {Nc : List (String × String)} {MT : zMT}
variable {R' : zQ} {pc : Nat}
theorem zs_callSW (F : CallFix p m c cc nL s args Ts own) (hNw : Nw.all zst = true) (hA : ∀ q, s.heap.size ≤ q → A q) (hK : va_K D cl (zTys dA SC) s) (hE : zEnv St Nw Nc SC A s s.heap) {y np index nx : Nat} {bytes : ByteArray} {maxL : Nat} {ret : Option FieldType} {hh : List (Nat × Nat × Nat × Nat)} (hc9 : zcalh MT Ts y bytes maxL ret hh np) (hroom : zroom R (MT y).2.2 maxL = true) {mk sk : Nat} {lim : Nat × Nat} (hlim : lim.1 ≤ R.cells ∧ lim.2 ≤ R.slots) (hmk : (MT y).2.2.cells = mk ∧ (MT y).2.2.slots = sk) (hlink : Cond.methodLink own index (MT y).1 ∈ Ts) (hst : Cond.static (MT y).1 ∈ Ts) (hd : decode cc pc = .ok (.invokestatic index, 3)) (hn : pc + 3 = nx) : zSnd (zConc p l e R s m args below meth c Qf nL D cl dA A ad0 n0) (zMet l D cl dA SC St Nw Nc MT) R' pc (zt_callm y np mk sk lim nx) := by
  intro ls st h n cu su ht hw hr hnn ad H locs lsA ha hP hD hS hl
  unfold zt_callm at ht
  cases hz : zpop np [] st with
  | none => simp only [hz] at ht
  | some q =>
    obtain ⟨as, s9⟩ := q
    obtain ⟨hsp, hlen, hws⟩ := zpop_split (ad := ad) hz
    obtain ⟨hwa, hw9⟩ := hws n hw.2.1
    simp only [hz] at ht
    cases hk : zsm s9 8 with
    | false => simp only [hk] at ht
    | true =>
      simp only [hk] at ht
      have h8 := zsm_ok s9 8 hk
      obtain ⟨hfit, ht⟩ := ht
      obtain ⟨f1, f2⟩ := zfit_ok hfit
      rw [hsp]
      have hM := (ht hwa hw.2.2 ad H.size).met zback_noX
      obtain ⟨hfb, hpre⟩ := zpre_at (as := as) hNw hA hK hE hP hD hS
      refine z_back (D := D) (cl := cl) (mc := mk) (ms := sk) (av := (as.map (zv ad)).toArray) hA hn ⟨hw.1, hw9⟩ ⟨Nat.le_trans f1 hlim.1, Nat.le_trans f2 hlim.2⟩ hnn ha hD hS hl ?_
      rw [hmk.1, hmk.2] at hM
      have hG : GoodIn Ts (va_wsS own index (MT y).1 (MT y).2.1) := fun w hw => by
        rcases List.mem_append.mp hw with h | h
        · rcases List.mem_cons.mp h with rfl | h
          · exact ⟨hlink, good_of_word rfl⟩
          · rcases List.mem_cons.mp h with rfl | h
            · exact ⟨hst, good_of_word rfl⟩
            · rcases List.mem_cons.mp h with rfl | h
              · exact ⟨hc9.2.2.2, good_of_word rfl⟩
              · exact nomatch h
        · exact hc9.2.1 w h
      exact vx_runSW (hh := hh) (g := F0 m pc lsA ((as.map (zv ad)).reverse ++ s9.map (zv ad))) F hM (vx_cwSW np F.2.2.2.2 hG hc9.1 hmk.1 hmk.2 hc9.2.2.1 (zroom_ok hroom)) ⟨hfb, hpre⟩ rfl (by rw [List.length_map]; exact hlen) hl.1 rfl (lv_room (by rw [zsm_map]; exact h8)) hd ⟨Nat.le_trans f1 hlim.1, Nat.le_trans f2 hlim.2⟩
end ZCall
theorem z_methH {l : Launch} {D : va_G} {cl : List vw_C} {dA : Nat → ClassId} {SC : String} {St : List (String × Nat × String)} {Nw : List Cond} {Nc : List (String × String)} {MT : zMT} {Ts : List Cond} {k nL np : Nat} {cc : ByteArray} {ret : Option FieldType} {hh : List (Nat × Nat × Nat × Nat)} {T : List (List (Nat × zT))}
    (hcal : zcalh MT Ts k cc nL ret hh np) (hy : plainName (MT k).1.cls = true) {as : List Value} {h0 : zH} {n0 : Nat} {Q : zQ} (hlen : (lg_sl (as.map (zv (fun i => i)))).length ≤ nL)
    (hS : ∀ (ad0 : Nat → Nat) (p : Program) (e : Env) (s : State) (m : MethodId) (args : Array Value) (below : List Frame) (meth : Method) (c : Code),
      CallFix p m c cc nL s args Ts (MT k).1.cls → meth.sig.returnType = ret → meth.locks = false → meth.name = (MT k).1.name → c.exceptionTable.toList = tableOf hh → va_K D cl (zTys dA SC) s → zEnv St Nw Nc SC (va_A (zW dA ad0 h0 n0) s.heap.size) s s.heap →
      ∀ L ∈ T, ∀ q ∈ L, zSnd (zConc p l e (MT k).2.2 s m args below meth c (zQf (MT k).2.2 s args below D cl dA ad0 h0 n0 Q) nL D cl dA (va_A (zW dA ad0 h0 n0) s.heap.size) ad0 n0) (zMet l D cl dA SC St Nw Nc MT) Q q.1 q.2)
    (hP : ∀ P : zP, (∀ pc ls st h n cu su, zstep T (zMet l D cl dA SC St Nw Nc MT) Q P pc ls st h n cu su → P pc ls st h n cu su) → zfgt P → P 0 (zent nL as) [] h0 n0 0 0) : zMet l D cl dA SC St Nw Nc MT k as h0 n0 Q := by
  intro hwa hwh ad sz
  refine vx_ofWH (cc := cc) (maxL := nL) (ret := ret) (hh := hh) hy hcal.1 ?_
  intro p e s m args below meth c s₁ B hml hv
  obtain ⟨rfl, hsz, hP0, hK, hD0, hE⟩ := hv
  subst hsz
  have hts := atoms_spec (ws := (MT k).2.1) B.pre
  have hts' : ∀ w ∈ Ts, w.before _ s = true := fun w hw => hts w (by rw [hcal.1]; exact List.mem_cons_of_mem _ hw)
  have F : CallFix p m c cc nL s (as.map (zv ad)).toArray Ts (MT k).1.cls := ⟨B.exec, B.bytes, hml, findClass_of_methodNamed B.named, hts'⟩
  have htab' : c.exceptionTable.toList = tableOf hh := vx_table (x := (MT k).1) B (hts _ (by rw [hcal.1]; exact List.mem_cons_self))
  have hSn := hS ad p e s m _ below meth c F B.returns B.notSynchronized (name_of_methodNamed B.named B.method).1 htab' hK hE
  have key := hP _ (fun pc ls st h n cu su hst => by
    unfold zstep at hst
    cases hf : zfet T pc with
    | none => simp only [hf] at hst
    | some t =>
      simp only [hf] at hst
      obtain ⟨L, hL, hm⟩ := zfet_mem hf
      exact hSn L hL _ hm ls st h n cu su hst) zConc_fgt
  have hlen' : (lg_sl (as.map (zv ad))).length ≤ nL := by
    have e1 : ∀ (f g : Nat → Nat) (vs : List Value), (lg_sl (vs.map (zv f))).length = (lg_sl (vs.map (zv g))).length := by
      intro f g vs
      induction vs with
      | nil => rfl
      | cons v vs ih =>
        unfold lg_sl at ih ⊢
        simp only [List.map_cons, List.flatMap_cons, List.length_append, ih]
        cases v <;> rfl
    rw [e1 ad (fun i => i)]
    exact hlen
  have hl := lv_entry (as.map (zv ad)) hlen'
  rw [lg_entry_eq]
  refine key ⟨zent_wl hwa, zws_nil, hwh⟩ ⟨Nat.zero_le _, Nat.zero_le _⟩ (Nat.le_refl _) ad s.heap [] _ (fun _ _ => rfl) hP0 hD0.self va_S.rf (zent_has hl)
/-- the good words of the tables -/
def lw_all : List Cond := lw_tbl.filter goodWord
theorem lw_in {i : Nat} {w : Cond} (h : lw_tbl[i]? = some w) (hg : goodWord w = true) : w ∈ lw_all := List.mem_filter.mpr ⟨List.mem_of_getElem? h, hg⟩
theorem lw_good {w : Cond} (h : w ∈ lw_all) : GoodIn lw_all (w :: lw_all) := fun v hv => by
  have hv' : v ∈ lw_all := (List.mem_cons.mp hv).elim (fun e => by rw [e]; exact h) id
  exact ⟨hv', good_of_word (List.mem_filter.mp hv').2⟩
theorem lw_sub {v : Cond} (h : v ∈ lw_all) : v ∈ lw_tbl := (List.mem_filter.mp h).1
end
section
/-! every transformer grows with what it asks -/
theorem zback_mono {P P' : zP} (hPP : ∀ pc ls st h n cu su, P pc ls st h n cu su → P' pc ls st h n cu su) {nx : Nat} {ls : zL} {s : List Value} {cu su : Nat} : ∀ x r h n, zback P nx ls s cu su x r h n → zback P' nx ls s cu su x r h n := by
  intro x r h n
  cases x with
  | zero => cases r <;> exact hPP _ _ _ _ _ _ _
  | succ x => exact id
theorem zbackx_mono {P P' : zP} (hPP : ∀ pc ls st h n cu su, P pc ls st h n cu su → P' pc ls st h n cu su) {nx : Nat} {ls : zL} {s : List Value} {hs : List (Nat × Nat × Nat)} {cu su : Nat} : ∀ x r h n, zbackx P nx ls s hs cu su x r h n → zbackx P' nx ls s hs cu su x r h n := by
  intro x r h n
  cases x with
  | zero => cases r <;> exact hPP _ _ _ _ _ _ _
  | succ x =>
    unfold zbackx
    simp only
    split
    · split
      · exact hPP _ _ _ _ _ _ _
      · exact id
    · exact id
theorem zm_iload (i nx : Nat) : zmono (zt_iload i nx) := by
  intro C R P P' hC hPP ls st h n cu su ht
  revert ht
  unfold zt_iload
  first
    | exact hPP _ _ _ _ _ _ _
    | exact id
    | exact fun ⟨a, b⟩ => ⟨a, hPP _ _ _ _ _ _ _ b⟩
    | (repeat' split) <;> first
      | exact hPP _ _ _ _ _ _ _
      | exact id
      | exact fun ⟨a, b⟩ => ⟨a, hPP _ _ _ _ _ _ _ b⟩
      | exact fun ⟨a, b⟩ => ⟨fun k => hPP _ _ _ _ _ _ _ (a k), fun k => hPP _ _ _ _ _ _ _ (b k)⟩
      | exact fun ⟨a, b⟩ => ⟨fun q hq k => hPP _ _ _ _ _ _ _ (a q hq k), fun k => hPP _ _ _ _ _ _ _ (b k)⟩
      | exact fun ⟨a, b, c, d, e⟩ => ⟨a, b, c, d, hPP _ _ _ _ _ _ _ e⟩
      | exact fun ⟨a, b, c, d⟩ => ⟨a, b, c, hPP _ _ _ _ _ _ _ d⟩
      | exact fun ⟨a, b, c, d, e, f⟩ => ⟨a, b, c, d, e, hPP _ _ _ _ _ _ _ f⟩
      | exact hC _ _ _ _ _ _ (zback_mono hPP)
      | exact fun ⟨a, b, c⟩ => ⟨a, b, hC _ _ _ _ _ _ (zback_mono hPP) c⟩
      | exact fun ⟨a, b⟩ => ⟨a, hC _ _ _ _ _ _ (zback_mono hPP) b⟩
      | exact fun ⟨a, b, c, d⟩ => ⟨a, b, c, hC _ _ _ _ _ _ (zback_mono hPP) d⟩
      | exact fun ⟨a, b, c, d⟩ => ⟨a, b, c, hC _ _ _ _ _ _ (zbackx_mono hPP) d⟩
theorem zm_aload (i nx : Nat) : zmono (zt_aload i nx) := by
  intro C R P P' hC hPP ls st h n cu su ht
  revert ht
  unfold zt_aload
  first
    | exact hPP _ _ _ _ _ _ _
    | exact id
    | exact fun ⟨a, b⟩ => ⟨a, hPP _ _ _ _ _ _ _ b⟩
    | (repeat' split) <;> first
      | exact hPP _ _ _ _ _ _ _
      | exact id
      | exact fun ⟨a, b⟩ => ⟨a, hPP _ _ _ _ _ _ _ b⟩
      | exact fun ⟨a, b⟩ => ⟨fun k => hPP _ _ _ _ _ _ _ (a k), fun k => hPP _ _ _ _ _ _ _ (b k)⟩
      | exact fun ⟨a, b⟩ => ⟨fun q hq k => hPP _ _ _ _ _ _ _ (a q hq k), fun k => hPP _ _ _ _ _ _ _ (b k)⟩
      | exact fun ⟨a, b, c, d, e⟩ => ⟨a, b, c, d, hPP _ _ _ _ _ _ _ e⟩
      | exact fun ⟨a, b, c, d⟩ => ⟨a, b, c, hPP _ _ _ _ _ _ _ d⟩
      | exact fun ⟨a, b, c, d, e, f⟩ => ⟨a, b, c, d, e, hPP _ _ _ _ _ _ _ f⟩
      | exact hC _ _ _ _ _ _ (zback_mono hPP)
      | exact fun ⟨a, b, c⟩ => ⟨a, b, hC _ _ _ _ _ _ (zback_mono hPP) c⟩
      | exact fun ⟨a, b⟩ => ⟨a, hC _ _ _ _ _ _ (zback_mono hPP) b⟩
      | exact fun ⟨a, b, c, d⟩ => ⟨a, b, c, hC _ _ _ _ _ _ (zback_mono hPP) d⟩
      | exact fun ⟨a, b, c, d⟩ => ⟨a, b, c, hC _ _ _ _ _ _ (zbackx_mono hPP) d⟩
theorem zm_lload (i nx : Nat) : zmono (zt_lload i nx) := by
  intro C R P P' hC hPP ls st h n cu su ht
  revert ht
  unfold zt_lload
  first
    | exact hPP _ _ _ _ _ _ _
    | exact id
    | exact fun ⟨a, b⟩ => ⟨a, hPP _ _ _ _ _ _ _ b⟩
    | (repeat' split) <;> first
      | exact hPP _ _ _ _ _ _ _
      | exact id
      | exact fun ⟨a, b⟩ => ⟨a, hPP _ _ _ _ _ _ _ b⟩
      | exact fun ⟨a, b⟩ => ⟨fun k => hPP _ _ _ _ _ _ _ (a k), fun k => hPP _ _ _ _ _ _ _ (b k)⟩
      | exact fun ⟨a, b⟩ => ⟨fun q hq k => hPP _ _ _ _ _ _ _ (a q hq k), fun k => hPP _ _ _ _ _ _ _ (b k)⟩
      | exact fun ⟨a, b, c, d, e⟩ => ⟨a, b, c, d, hPP _ _ _ _ _ _ _ e⟩
      | exact fun ⟨a, b, c, d⟩ => ⟨a, b, c, hPP _ _ _ _ _ _ _ d⟩
      | exact fun ⟨a, b, c, d, e, f⟩ => ⟨a, b, c, d, e, hPP _ _ _ _ _ _ _ f⟩
      | exact hC _ _ _ _ _ _ (zback_mono hPP)
      | exact fun ⟨a, b, c⟩ => ⟨a, b, hC _ _ _ _ _ _ (zback_mono hPP) c⟩
      | exact fun ⟨a, b⟩ => ⟨a, hC _ _ _ _ _ _ (zback_mono hPP) b⟩
      | exact fun ⟨a, b, c, d⟩ => ⟨a, b, c, hC _ _ _ _ _ _ (zback_mono hPP) d⟩
      | exact fun ⟨a, b, c, d⟩ => ⟨a, b, c, hC _ _ _ _ _ _ (zbackx_mono hPP) d⟩
theorem zm_dload (i nx : Nat) : zmono (zt_dload i nx) := by
  intro C R P P' hC hPP ls st h n cu su ht
  revert ht
  unfold zt_dload
  first
    | exact hPP _ _ _ _ _ _ _
    | exact id
    | exact fun ⟨a, b⟩ => ⟨a, hPP _ _ _ _ _ _ _ b⟩
    | (repeat' split) <;> first
      | exact hPP _ _ _ _ _ _ _
      | exact id
      | exact fun ⟨a, b⟩ => ⟨a, hPP _ _ _ _ _ _ _ b⟩
      | exact fun ⟨a, b⟩ => ⟨fun k => hPP _ _ _ _ _ _ _ (a k), fun k => hPP _ _ _ _ _ _ _ (b k)⟩
      | exact fun ⟨a, b⟩ => ⟨fun q hq k => hPP _ _ _ _ _ _ _ (a q hq k), fun k => hPP _ _ _ _ _ _ _ (b k)⟩
      | exact fun ⟨a, b, c, d, e⟩ => ⟨a, b, c, d, hPP _ _ _ _ _ _ _ e⟩
      | exact fun ⟨a, b, c, d⟩ => ⟨a, b, c, hPP _ _ _ _ _ _ _ d⟩
      | exact fun ⟨a, b, c, d, e, f⟩ => ⟨a, b, c, d, e, hPP _ _ _ _ _ _ _ f⟩
      | exact hC _ _ _ _ _ _ (zback_mono hPP)
      | exact fun ⟨a, b, c⟩ => ⟨a, b, hC _ _ _ _ _ _ (zback_mono hPP) c⟩
      | exact fun ⟨a, b⟩ => ⟨a, hC _ _ _ _ _ _ (zback_mono hPP) b⟩
      | exact fun ⟨a, b, c, d⟩ => ⟨a, b, c, hC _ _ _ _ _ _ (zback_mono hPP) d⟩
      | exact fun ⟨a, b, c, d⟩ => ⟨a, b, c, hC _ _ _ _ _ _ (zbackx_mono hPP) d⟩
theorem zm_istore (i nx : Nat) : zmono (zt_istore i nx) := by
  intro C R P P' hC hPP ls st h n cu su ht
  revert ht
  unfold zt_istore
  first
    | exact hPP _ _ _ _ _ _ _
    | exact id
    | exact fun ⟨a, b⟩ => ⟨a, hPP _ _ _ _ _ _ _ b⟩
    | (repeat' split) <;> first
      | exact hPP _ _ _ _ _ _ _
      | exact id
      | exact fun ⟨a, b⟩ => ⟨a, hPP _ _ _ _ _ _ _ b⟩
      | exact fun ⟨a, b⟩ => ⟨fun k => hPP _ _ _ _ _ _ _ (a k), fun k => hPP _ _ _ _ _ _ _ (b k)⟩
      | exact fun ⟨a, b⟩ => ⟨fun q hq k => hPP _ _ _ _ _ _ _ (a q hq k), fun k => hPP _ _ _ _ _ _ _ (b k)⟩
      | exact fun ⟨a, b, c, d, e⟩ => ⟨a, b, c, d, hPP _ _ _ _ _ _ _ e⟩
      | exact fun ⟨a, b, c, d⟩ => ⟨a, b, c, hPP _ _ _ _ _ _ _ d⟩
      | exact fun ⟨a, b, c, d, e, f⟩ => ⟨a, b, c, d, e, hPP _ _ _ _ _ _ _ f⟩
      | exact hC _ _ _ _ _ _ (zback_mono hPP)
      | exact fun ⟨a, b, c⟩ => ⟨a, b, hC _ _ _ _ _ _ (zback_mono hPP) c⟩
      | exact fun ⟨a, b⟩ => ⟨a, hC _ _ _ _ _ _ (zback_mono hPP) b⟩
      | exact fun ⟨a, b, c, d⟩ => ⟨a, b, c, hC _ _ _ _ _ _ (zback_mono hPP) d⟩
      | exact fun ⟨a, b, c, d⟩ => ⟨a, b, c, hC _ _ _ _ _ _ (zbackx_mono hPP) d⟩
theorem zm_astore (i nx : Nat) : zmono (zt_astore i nx) := by
  intro C R P P' hC hPP ls st h n cu su ht
  revert ht
  unfold zt_astore
  first
    | exact hPP _ _ _ _ _ _ _
    | exact id
    | exact fun ⟨a, b⟩ => ⟨a, hPP _ _ _ _ _ _ _ b⟩
    | (repeat' split) <;> first
      | exact hPP _ _ _ _ _ _ _
      | exact id
      | exact fun ⟨a, b⟩ => ⟨a, hPP _ _ _ _ _ _ _ b⟩
      | exact fun ⟨a, b⟩ => ⟨fun k => hPP _ _ _ _ _ _ _ (a k), fun k => hPP _ _ _ _ _ _ _ (b k)⟩
      | exact fun ⟨a, b⟩ => ⟨fun q hq k => hPP _ _ _ _ _ _ _ (a q hq k), fun k => hPP _ _ _ _ _ _ _ (b k)⟩
      | exact fun ⟨a, b, c, d, e⟩ => ⟨a, b, c, d, hPP _ _ _ _ _ _ _ e⟩
      | exact fun ⟨a, b, c, d⟩ => ⟨a, b, c, hPP _ _ _ _ _ _ _ d⟩
      | exact fun ⟨a, b, c, d, e, f⟩ => ⟨a, b, c, d, e, hPP _ _ _ _ _ _ _ f⟩
      | exact hC _ _ _ _ _ _ (zback_mono hPP)
      | exact fun ⟨a, b, c⟩ => ⟨a, b, hC _ _ _ _ _ _ (zback_mono hPP) c⟩
      | exact fun ⟨a, b⟩ => ⟨a, hC _ _ _ _ _ _ (zback_mono hPP) b⟩
      | exact fun ⟨a, b, c, d⟩ => ⟨a, b, c, hC _ _ _ _ _ _ (zback_mono hPP) d⟩
      | exact fun ⟨a, b, c, d⟩ => ⟨a, b, c, hC _ _ _ _ _ _ (zbackx_mono hPP) d⟩
theorem zm_lstore (i nx : Nat) : zmono (zt_lstore i nx) := by
  intro C R P P' hC hPP ls st h n cu su ht
  revert ht
  unfold zt_lstore
  first
    | exact hPP _ _ _ _ _ _ _
    | exact id
    | exact fun ⟨a, b⟩ => ⟨a, hPP _ _ _ _ _ _ _ b⟩
    | (repeat' split) <;> first
      | exact hPP _ _ _ _ _ _ _
      | exact id
      | exact fun ⟨a, b⟩ => ⟨a, hPP _ _ _ _ _ _ _ b⟩
      | exact fun ⟨a, b⟩ => ⟨fun k => hPP _ _ _ _ _ _ _ (a k), fun k => hPP _ _ _ _ _ _ _ (b k)⟩
      | exact fun ⟨a, b⟩ => ⟨fun q hq k => hPP _ _ _ _ _ _ _ (a q hq k), fun k => hPP _ _ _ _ _ _ _ (b k)⟩
      | exact fun ⟨a, b, c, d, e⟩ => ⟨a, b, c, d, hPP _ _ _ _ _ _ _ e⟩
      | exact fun ⟨a, b, c, d⟩ => ⟨a, b, c, hPP _ _ _ _ _ _ _ d⟩
      | exact fun ⟨a, b, c, d, e, f⟩ => ⟨a, b, c, d, e, hPP _ _ _ _ _ _ _ f⟩
      | exact hC _ _ _ _ _ _ (zback_mono hPP)
      | exact fun ⟨a, b, c⟩ => ⟨a, b, hC _ _ _ _ _ _ (zback_mono hPP) c⟩
      | exact fun ⟨a, b⟩ => ⟨a, hC _ _ _ _ _ _ (zback_mono hPP) b⟩
      | exact fun ⟨a, b, c, d⟩ => ⟨a, b, c, hC _ _ _ _ _ _ (zback_mono hPP) d⟩
      | exact fun ⟨a, b, c, d⟩ => ⟨a, b, c, hC _ _ _ _ _ _ (zbackx_mono hPP) d⟩
theorem zm_dstore (i nx : Nat) : zmono (zt_dstore i nx) := by
  intro C R P P' hC hPP ls st h n cu su ht
  revert ht
  unfold zt_dstore
  first
    | exact hPP _ _ _ _ _ _ _
    | exact id
    | exact fun ⟨a, b⟩ => ⟨a, hPP _ _ _ _ _ _ _ b⟩
    | (repeat' split) <;> first
      | exact hPP _ _ _ _ _ _ _
      | exact id
      | exact fun ⟨a, b⟩ => ⟨a, hPP _ _ _ _ _ _ _ b⟩
      | exact fun ⟨a, b⟩ => ⟨fun k => hPP _ _ _ _ _ _ _ (a k), fun k => hPP _ _ _ _ _ _ _ (b k)⟩
      | exact fun ⟨a, b⟩ => ⟨fun q hq k => hPP _ _ _ _ _ _ _ (a q hq k), fun k => hPP _ _ _ _ _ _ _ (b k)⟩
      | exact fun ⟨a, b, c, d, e⟩ => ⟨a, b, c, d, hPP _ _ _ _ _ _ _ e⟩
      | exact fun ⟨a, b, c, d⟩ => ⟨a, b, c, hPP _ _ _ _ _ _ _ d⟩
      | exact fun ⟨a, b, c, d, e, f⟩ => ⟨a, b, c, d, e, hPP _ _ _ _ _ _ _ f⟩
      | exact hC _ _ _ _ _ _ (zback_mono hPP)
      | exact fun ⟨a, b, c⟩ => ⟨a, b, hC _ _ _ _ _ _ (zback_mono hPP) c⟩
      | exact fun ⟨a, b⟩ => ⟨a, hC _ _ _ _ _ _ (zback_mono hPP) b⟩
      | exact fun ⟨a, b, c, d⟩ => ⟨a, b, c, hC _ _ _ _ _ _ (zback_mono hPP) d⟩
      | exact fun ⟨a, b, c, d⟩ => ⟨a, b, c, hC _ _ _ _ _ _ (zbackx_mono hPP) d⟩
theorem zm_iinc (i : Nat) (k : Int) (nx : Nat) : zmono (zt_iinc i k nx) := by
  intro C R P P' hC hPP ls st h n cu su ht
  revert ht
  unfold zt_iinc
  first
    | exact hPP _ _ _ _ _ _ _
    | exact id
    | exact fun ⟨a, b⟩ => ⟨a, hPP _ _ _ _ _ _ _ b⟩
    | (repeat' split) <;> first
      | exact hPP _ _ _ _ _ _ _
      | exact id
      | exact fun ⟨a, b⟩ => ⟨a, hPP _ _ _ _ _ _ _ b⟩
      | exact fun ⟨a, b⟩ => ⟨fun k => hPP _ _ _ _ _ _ _ (a k), fun k => hPP _ _ _ _ _ _ _ (b k)⟩
      | exact fun ⟨a, b⟩ => ⟨fun q hq k => hPP _ _ _ _ _ _ _ (a q hq k), fun k => hPP _ _ _ _ _ _ _ (b k)⟩
      | exact fun ⟨a, b, c, d, e⟩ => ⟨a, b, c, d, hPP _ _ _ _ _ _ _ e⟩
      | exact fun ⟨a, b, c, d⟩ => ⟨a, b, c, hPP _ _ _ _ _ _ _ d⟩
      | exact fun ⟨a, b, c, d, e, f⟩ => ⟨a, b, c, d, e, hPP _ _ _ _ _ _ _ f⟩
      | exact hC _ _ _ _ _ _ (zback_mono hPP)
      | exact fun ⟨a, b, c⟩ => ⟨a, b, hC _ _ _ _ _ _ (zback_mono hPP) c⟩
      | exact fun ⟨a, b⟩ => ⟨a, hC _ _ _ _ _ _ (zback_mono hPP) b⟩
      | exact fun ⟨a, b, c, d⟩ => ⟨a, b, c, hC _ _ _ _ _ _ (zback_mono hPP) d⟩
      | exact fun ⟨a, b, c, d⟩ => ⟨a, b, c, hC _ _ _ _ _ _ (zbackx_mono hPP) d⟩
theorem zm_iconst (v : Int32) (nx : Nat) : zmono (zt_iconst v nx) := by
  intro C R P P' hC hPP ls st h n cu su ht
  revert ht
  unfold zt_iconst
  first
    | exact hPP _ _ _ _ _ _ _
    | exact id
    | exact fun ⟨a, b⟩ => ⟨a, hPP _ _ _ _ _ _ _ b⟩
    | (repeat' split) <;> first
      | exact hPP _ _ _ _ _ _ _
      | exact id
      | exact fun ⟨a, b⟩ => ⟨a, hPP _ _ _ _ _ _ _ b⟩
      | exact fun ⟨a, b⟩ => ⟨fun k => hPP _ _ _ _ _ _ _ (a k), fun k => hPP _ _ _ _ _ _ _ (b k)⟩
      | exact fun ⟨a, b⟩ => ⟨fun q hq k => hPP _ _ _ _ _ _ _ (a q hq k), fun k => hPP _ _ _ _ _ _ _ (b k)⟩
      | exact fun ⟨a, b, c, d, e⟩ => ⟨a, b, c, d, hPP _ _ _ _ _ _ _ e⟩
      | exact fun ⟨a, b, c, d⟩ => ⟨a, b, c, hPP _ _ _ _ _ _ _ d⟩
      | exact fun ⟨a, b, c, d, e, f⟩ => ⟨a, b, c, d, e, hPP _ _ _ _ _ _ _ f⟩
      | exact hC _ _ _ _ _ _ (zback_mono hPP)
      | exact fun ⟨a, b, c⟩ => ⟨a, b, hC _ _ _ _ _ _ (zback_mono hPP) c⟩
      | exact fun ⟨a, b⟩ => ⟨a, hC _ _ _ _ _ _ (zback_mono hPP) b⟩
      | exact fun ⟨a, b, c, d⟩ => ⟨a, b, c, hC _ _ _ _ _ _ (zback_mono hPP) d⟩
      | exact fun ⟨a, b, c, d⟩ => ⟨a, b, c, hC _ _ _ _ _ _ (zbackx_mono hPP) d⟩
theorem zm_lconst (v : Int64) (nx : Nat) : zmono (zt_lconst v nx) := by
  intro C R P P' hC hPP ls st h n cu su ht
  revert ht
  unfold zt_lconst
  first
    | exact hPP _ _ _ _ _ _ _
    | exact id
    | exact fun ⟨a, b⟩ => ⟨a, hPP _ _ _ _ _ _ _ b⟩
    | (repeat' split) <;> first
      | exact hPP _ _ _ _ _ _ _
      | exact id
      | exact fun ⟨a, b⟩ => ⟨a, hPP _ _ _ _ _ _ _ b⟩
      | exact fun ⟨a, b⟩ => ⟨fun k => hPP _ _ _ _ _ _ _ (a k), fun k => hPP _ _ _ _ _ _ _ (b k)⟩
      | exact fun ⟨a, b⟩ => ⟨fun q hq k => hPP _ _ _ _ _ _ _ (a q hq k), fun k => hPP _ _ _ _ _ _ _ (b k)⟩
      | exact fun ⟨a, b, c, d, e⟩ => ⟨a, b, c, d, hPP _ _ _ _ _ _ _ e⟩
      | exact fun ⟨a, b, c, d⟩ => ⟨a, b, c, hPP _ _ _ _ _ _ _ d⟩
      | exact fun ⟨a, b, c, d, e, f⟩ => ⟨a, b, c, d, e, hPP _ _ _ _ _ _ _ f⟩
      | exact hC _ _ _ _ _ _ (zback_mono hPP)
      | exact fun ⟨a, b, c⟩ => ⟨a, b, hC _ _ _ _ _ _ (zback_mono hPP) c⟩
      | exact fun ⟨a, b⟩ => ⟨a, hC _ _ _ _ _ _ (zback_mono hPP) b⟩
      | exact fun ⟨a, b, c, d⟩ => ⟨a, b, c, hC _ _ _ _ _ _ (zback_mono hPP) d⟩
      | exact fun ⟨a, b, c, d⟩ => ⟨a, b, c, hC _ _ _ _ _ _ (zbackx_mono hPP) d⟩
theorem zm_dconst (v : UInt64) (nx : Nat) : zmono (zt_dconst v nx) := by
  intro C R P P' hC hPP ls st h n cu su ht
  revert ht
  unfold zt_dconst
  first
    | exact hPP _ _ _ _ _ _ _
    | exact id
    | exact fun ⟨a, b⟩ => ⟨a, hPP _ _ _ _ _ _ _ b⟩
    | (repeat' split) <;> first
      | exact hPP _ _ _ _ _ _ _
      | exact id
      | exact fun ⟨a, b⟩ => ⟨a, hPP _ _ _ _ _ _ _ b⟩
      | exact fun ⟨a, b⟩ => ⟨fun k => hPP _ _ _ _ _ _ _ (a k), fun k => hPP _ _ _ _ _ _ _ (b k)⟩
      | exact fun ⟨a, b⟩ => ⟨fun q hq k => hPP _ _ _ _ _ _ _ (a q hq k), fun k => hPP _ _ _ _ _ _ _ (b k)⟩
      | exact fun ⟨a, b, c, d, e⟩ => ⟨a, b, c, d, hPP _ _ _ _ _ _ _ e⟩
      | exact fun ⟨a, b, c, d⟩ => ⟨a, b, c, hPP _ _ _ _ _ _ _ d⟩
      | exact fun ⟨a, b, c, d, e, f⟩ => ⟨a, b, c, d, e, hPP _ _ _ _ _ _ _ f⟩
      | exact hC _ _ _ _ _ _ (zback_mono hPP)
      | exact fun ⟨a, b, c⟩ => ⟨a, b, hC _ _ _ _ _ _ (zback_mono hPP) c⟩
      | exact fun ⟨a, b⟩ => ⟨a, hC _ _ _ _ _ _ (zback_mono hPP) b⟩
      | exact fun ⟨a, b, c, d⟩ => ⟨a, b, c, hC _ _ _ _ _ _ (zback_mono hPP) d⟩
      | exact fun ⟨a, b, c, d⟩ => ⟨a, b, c, hC _ _ _ _ _ _ (zbackx_mono hPP) d⟩
theorem zm_null (nx : Nat) : zmono (zt_null nx) := by
  intro C R P P' hC hPP ls st h n cu su ht
  revert ht
  unfold zt_null
  first
    | exact hPP _ _ _ _ _ _ _
    | exact id
    | exact fun ⟨a, b⟩ => ⟨a, hPP _ _ _ _ _ _ _ b⟩
    | (repeat' split) <;> first
      | exact hPP _ _ _ _ _ _ _
      | exact id
      | exact fun ⟨a, b⟩ => ⟨a, hPP _ _ _ _ _ _ _ b⟩
      | exact fun ⟨a, b⟩ => ⟨fun k => hPP _ _ _ _ _ _ _ (a k), fun k => hPP _ _ _ _ _ _ _ (b k)⟩
      | exact fun ⟨a, b⟩ => ⟨fun q hq k => hPP _ _ _ _ _ _ _ (a q hq k), fun k => hPP _ _ _ _ _ _ _ (b k)⟩
      | exact fun ⟨a, b, c, d, e⟩ => ⟨a, b, c, d, hPP _ _ _ _ _ _ _ e⟩
      | exact fun ⟨a, b, c, d⟩ => ⟨a, b, c, hPP _ _ _ _ _ _ _ d⟩
      | exact fun ⟨a, b, c, d, e, f⟩ => ⟨a, b, c, d, e, hPP _ _ _ _ _ _ _ f⟩
      | exact hC _ _ _ _ _ _ (zback_mono hPP)
      | exact fun ⟨a, b, c⟩ => ⟨a, b, hC _ _ _ _ _ _ (zback_mono hPP) c⟩
      | exact fun ⟨a, b⟩ => ⟨a, hC _ _ _ _ _ _ (zback_mono hPP) b⟩
      | exact fun ⟨a, b, c, d⟩ => ⟨a, b, c, hC _ _ _ _ _ _ (zback_mono hPP) d⟩
      | exact fun ⟨a, b, c, d⟩ => ⟨a, b, c, hC _ _ _ _ _ _ (zbackx_mono hPP) d⟩
theorem zm_iadd (nx : Nat) : zmono (zt_iadd nx) := by
  intro C R P P' hC hPP ls st h n cu su ht
  revert ht
  unfold zt_iadd
  first
    | exact hPP _ _ _ _ _ _ _
    | exact id
    | exact fun ⟨a, b⟩ => ⟨a, hPP _ _ _ _ _ _ _ b⟩
    | (repeat' split) <;> first
      | exact hPP _ _ _ _ _ _ _
      | exact id
      | exact fun ⟨a, b⟩ => ⟨a, hPP _ _ _ _ _ _ _ b⟩
      | exact fun ⟨a, b⟩ => ⟨fun k => hPP _ _ _ _ _ _ _ (a k), fun k => hPP _ _ _ _ _ _ _ (b k)⟩
      | exact fun ⟨a, b⟩ => ⟨fun q hq k => hPP _ _ _ _ _ _ _ (a q hq k), fun k => hPP _ _ _ _ _ _ _ (b k)⟩
      | exact fun ⟨a, b, c, d, e⟩ => ⟨a, b, c, d, hPP _ _ _ _ _ _ _ e⟩
      | exact fun ⟨a, b, c, d⟩ => ⟨a, b, c, hPP _ _ _ _ _ _ _ d⟩
      | exact fun ⟨a, b, c, d, e, f⟩ => ⟨a, b, c, d, e, hPP _ _ _ _ _ _ _ f⟩
      | exact hC _ _ _ _ _ _ (zback_mono hPP)
      | exact fun ⟨a, b, c⟩ => ⟨a, b, hC _ _ _ _ _ _ (zback_mono hPP) c⟩
      | exact fun ⟨a, b⟩ => ⟨a, hC _ _ _ _ _ _ (zback_mono hPP) b⟩
      | exact fun ⟨a, b, c, d⟩ => ⟨a, b, c, hC _ _ _ _ _ _ (zback_mono hPP) d⟩
      | exact fun ⟨a, b, c, d⟩ => ⟨a, b, c, hC _ _ _ _ _ _ (zbackx_mono hPP) d⟩
theorem zm_isub (nx : Nat) : zmono (zt_isub nx) := by
  intro C R P P' hC hPP ls st h n cu su ht
  revert ht
  unfold zt_isub
  first
    | exact hPP _ _ _ _ _ _ _
    | exact id
    | exact fun ⟨a, b⟩ => ⟨a, hPP _ _ _ _ _ _ _ b⟩
    | (repeat' split) <;> first
      | exact hPP _ _ _ _ _ _ _
      | exact id
      | exact fun ⟨a, b⟩ => ⟨a, hPP _ _ _ _ _ _ _ b⟩
      | exact fun ⟨a, b⟩ => ⟨fun k => hPP _ _ _ _ _ _ _ (a k), fun k => hPP _ _ _ _ _ _ _ (b k)⟩
      | exact fun ⟨a, b⟩ => ⟨fun q hq k => hPP _ _ _ _ _ _ _ (a q hq k), fun k => hPP _ _ _ _ _ _ _ (b k)⟩
      | exact fun ⟨a, b, c, d, e⟩ => ⟨a, b, c, d, hPP _ _ _ _ _ _ _ e⟩
      | exact fun ⟨a, b, c, d⟩ => ⟨a, b, c, hPP _ _ _ _ _ _ _ d⟩
      | exact fun ⟨a, b, c, d, e, f⟩ => ⟨a, b, c, d, e, hPP _ _ _ _ _ _ _ f⟩
      | exact hC _ _ _ _ _ _ (zback_mono hPP)
      | exact fun ⟨a, b, c⟩ => ⟨a, b, hC _ _ _ _ _ _ (zback_mono hPP) c⟩
      | exact fun ⟨a, b⟩ => ⟨a, hC _ _ _ _ _ _ (zback_mono hPP) b⟩
      | exact fun ⟨a, b, c, d⟩ => ⟨a, b, c, hC _ _ _ _ _ _ (zback_mono hPP) d⟩
      | exact fun ⟨a, b, c, d⟩ => ⟨a, b, c, hC _ _ _ _ _ _ (zbackx_mono hPP) d⟩
theorem zm_imul (nx : Nat) : zmono (zt_imul nx) := by
  intro C R P P' hC hPP ls st h n cu su ht
  revert ht
  unfold zt_imul
  first
    | exact hPP _ _ _ _ _ _ _
    | exact id
    | exact fun ⟨a, b⟩ => ⟨a, hPP _ _ _ _ _ _ _ b⟩
    | (repeat' split) <;> first
      | exact hPP _ _ _ _ _ _ _
      | exact id
      | exact fun ⟨a, b⟩ => ⟨a, hPP _ _ _ _ _ _ _ b⟩
      | exact fun ⟨a, b⟩ => ⟨fun k => hPP _ _ _ _ _ _ _ (a k), fun k => hPP _ _ _ _ _ _ _ (b k)⟩
      | exact fun ⟨a, b⟩ => ⟨fun q hq k => hPP _ _ _ _ _ _ _ (a q hq k), fun k => hPP _ _ _ _ _ _ _ (b k)⟩
      | exact fun ⟨a, b, c, d, e⟩ => ⟨a, b, c, d, hPP _ _ _ _ _ _ _ e⟩
      | exact fun ⟨a, b, c, d⟩ => ⟨a, b, c, hPP _ _ _ _ _ _ _ d⟩
      | exact fun ⟨a, b, c, d, e, f⟩ => ⟨a, b, c, d, e, hPP _ _ _ _ _ _ _ f⟩
      | exact hC _ _ _ _ _ _ (zback_mono hPP)
      | exact fun ⟨a, b, c⟩ => ⟨a, b, hC _ _ _ _ _ _ (zback_mono hPP) c⟩
      | exact fun ⟨a, b⟩ => ⟨a, hC _ _ _ _ _ _ (zback_mono hPP) b⟩
      | exact fun ⟨a, b, c, d⟩ => ⟨a, b, c, hC _ _ _ _ _ _ (zback_mono hPP) d⟩
      | exact fun ⟨a, b, c, d⟩ => ⟨a, b, c, hC _ _ _ _ _ _ (zbackx_mono hPP) d⟩
theorem zm_iand (nx : Nat) : zmono (zt_iand nx) := by
  intro C R P P' hC hPP ls st h n cu su ht
  revert ht
  unfold zt_iand
  first
    | exact hPP _ _ _ _ _ _ _
    | exact id
    | exact fun ⟨a, b⟩ => ⟨a, hPP _ _ _ _ _ _ _ b⟩
    | (repeat' split) <;> first
      | exact hPP _ _ _ _ _ _ _
      | exact id
      | exact fun ⟨a, b⟩ => ⟨a, hPP _ _ _ _ _ _ _ b⟩
      | exact fun ⟨a, b⟩ => ⟨fun k => hPP _ _ _ _ _ _ _ (a k), fun k => hPP _ _ _ _ _ _ _ (b k)⟩
      | exact fun ⟨a, b⟩ => ⟨fun q hq k => hPP _ _ _ _ _ _ _ (a q hq k), fun k => hPP _ _ _ _ _ _ _ (b k)⟩
      | exact fun ⟨a, b, c, d, e⟩ => ⟨a, b, c, d, hPP _ _ _ _ _ _ _ e⟩
      | exact fun ⟨a, b, c, d⟩ => ⟨a, b, c, hPP _ _ _ _ _ _ _ d⟩
      | exact fun ⟨a, b, c, d, e, f⟩ => ⟨a, b, c, d, e, hPP _ _ _ _ _ _ _ f⟩
      | exact hC _ _ _ _ _ _ (zback_mono hPP)
      | exact fun ⟨a, b, c⟩ => ⟨a, b, hC _ _ _ _ _ _ (zback_mono hPP) c⟩
      | exact fun ⟨a, b⟩ => ⟨a, hC _ _ _ _ _ _ (zback_mono hPP) b⟩
      | exact fun ⟨a, b, c, d⟩ => ⟨a, b, c, hC _ _ _ _ _ _ (zback_mono hPP) d⟩
      | exact fun ⟨a, b, c, d⟩ => ⟨a, b, c, hC _ _ _ _ _ _ (zbackx_mono hPP) d⟩
theorem zm_ladd (nx : Nat) : zmono (zt_ladd nx) := by
  intro C R P P' hC hPP ls st h n cu su ht
  revert ht
  unfold zt_ladd
  first
    | exact hPP _ _ _ _ _ _ _
    | exact id
    | exact fun ⟨a, b⟩ => ⟨a, hPP _ _ _ _ _ _ _ b⟩
    | (repeat' split) <;> first
      | exact hPP _ _ _ _ _ _ _
      | exact id
      | exact fun ⟨a, b⟩ => ⟨a, hPP _ _ _ _ _ _ _ b⟩
      | exact fun ⟨a, b⟩ => ⟨fun k => hPP _ _ _ _ _ _ _ (a k), fun k => hPP _ _ _ _ _ _ _ (b k)⟩
      | exact fun ⟨a, b⟩ => ⟨fun q hq k => hPP _ _ _ _ _ _ _ (a q hq k), fun k => hPP _ _ _ _ _ _ _ (b k)⟩
      | exact fun ⟨a, b, c, d, e⟩ => ⟨a, b, c, d, hPP _ _ _ _ _ _ _ e⟩
      | exact fun ⟨a, b, c, d⟩ => ⟨a, b, c, hPP _ _ _ _ _ _ _ d⟩
      | exact fun ⟨a, b, c, d, e, f⟩ => ⟨a, b, c, d, e, hPP _ _ _ _ _ _ _ f⟩
      | exact hC _ _ _ _ _ _ (zback_mono hPP)
      | exact fun ⟨a, b, c⟩ => ⟨a, b, hC _ _ _ _ _ _ (zback_mono hPP) c⟩
      | exact fun ⟨a, b⟩ => ⟨a, hC _ _ _ _ _ _ (zback_mono hPP) b⟩
      | exact fun ⟨a, b, c, d⟩ => ⟨a, b, c, hC _ _ _ _ _ _ (zback_mono hPP) d⟩
      | exact fun ⟨a, b, c, d⟩ => ⟨a, b, c, hC _ _ _ _ _ _ (zbackx_mono hPP) d⟩
theorem zm_lmul (nx : Nat) : zmono (zt_lmul nx) := by
  intro C R P P' hC hPP ls st h n cu su ht
  revert ht
  unfold zt_lmul
  first
    | exact hPP _ _ _ _ _ _ _
    | exact id
    | exact fun ⟨a, b⟩ => ⟨a, hPP _ _ _ _ _ _ _ b⟩
    | (repeat' split) <;> first
      | exact hPP _ _ _ _ _ _ _
      | exact id
      | exact fun ⟨a, b⟩ => ⟨a, hPP _ _ _ _ _ _ _ b⟩
      | exact fun ⟨a, b⟩ => ⟨fun k => hPP _ _ _ _ _ _ _ (a k), fun k => hPP _ _ _ _ _ _ _ (b k)⟩
      | exact fun ⟨a, b⟩ => ⟨fun q hq k => hPP _ _ _ _ _ _ _ (a q hq k), fun k => hPP _ _ _ _ _ _ _ (b k)⟩
      | exact fun ⟨a, b, c, d, e⟩ => ⟨a, b, c, d, hPP _ _ _ _ _ _ _ e⟩
      | exact fun ⟨a, b, c, d⟩ => ⟨a, b, c, hPP _ _ _ _ _ _ _ d⟩
      | exact fun ⟨a, b, c, d, e, f⟩ => ⟨a, b, c, d, e, hPP _ _ _ _ _ _ _ f⟩
      | exact hC _ _ _ _ _ _ (zback_mono hPP)
      | exact fun ⟨a, b, c⟩ => ⟨a, b, hC _ _ _ _ _ _ (zback_mono hPP) c⟩
      | exact fun ⟨a, b⟩ => ⟨a, hC _ _ _ _ _ _ (zback_mono hPP) b⟩
      | exact fun ⟨a, b, c, d⟩ => ⟨a, b, c, hC _ _ _ _ _ _ (zback_mono hPP) d⟩
      | exact fun ⟨a, b, c, d⟩ => ⟨a, b, c, hC _ _ _ _ _ _ (zbackx_mono hPP) d⟩
theorem zm_i2l (nx : Nat) : zmono (zt_i2l nx) := by
  intro C R P P' hC hPP ls st h n cu su ht
  revert ht
  unfold zt_i2l
  first
    | exact hPP _ _ _ _ _ _ _
    | exact id
    | exact fun ⟨a, b⟩ => ⟨a, hPP _ _ _ _ _ _ _ b⟩
    | (repeat' split) <;> first
      | exact hPP _ _ _ _ _ _ _
      | exact id
      | exact fun ⟨a, b⟩ => ⟨a, hPP _ _ _ _ _ _ _ b⟩
      | exact fun ⟨a, b⟩ => ⟨fun k => hPP _ _ _ _ _ _ _ (a k), fun k => hPP _ _ _ _ _ _ _ (b k)⟩
      | exact fun ⟨a, b⟩ => ⟨fun q hq k => hPP _ _ _ _ _ _ _ (a q hq k), fun k => hPP _ _ _ _ _ _ _ (b k)⟩
      | exact fun ⟨a, b, c, d, e⟩ => ⟨a, b, c, d, hPP _ _ _ _ _ _ _ e⟩
      | exact fun ⟨a, b, c, d⟩ => ⟨a, b, c, hPP _ _ _ _ _ _ _ d⟩
      | exact fun ⟨a, b, c, d, e, f⟩ => ⟨a, b, c, d, e, hPP _ _ _ _ _ _ _ f⟩
      | exact hC _ _ _ _ _ _ (zback_mono hPP)
      | exact fun ⟨a, b, c⟩ => ⟨a, b, hC _ _ _ _ _ _ (zback_mono hPP) c⟩
      | exact fun ⟨a, b⟩ => ⟨a, hC _ _ _ _ _ _ (zback_mono hPP) b⟩
      | exact fun ⟨a, b, c, d⟩ => ⟨a, b, c, hC _ _ _ _ _ _ (zback_mono hPP) d⟩
      | exact fun ⟨a, b, c, d⟩ => ⟨a, b, c, hC _ _ _ _ _ _ (zbackx_mono hPP) d⟩
theorem zm_i2d (nx : Nat) : zmono (zt_i2d nx) := by
  intro C R P P' hC hPP ls st h n cu su ht
  revert ht
  unfold zt_i2d
  first
    | exact hPP _ _ _ _ _ _ _
    | exact id
    | exact fun ⟨a, b⟩ => ⟨a, hPP _ _ _ _ _ _ _ b⟩
    | (repeat' split) <;> first
      | exact hPP _ _ _ _ _ _ _
      | exact id
      | exact fun ⟨a, b⟩ => ⟨a, hPP _ _ _ _ _ _ _ b⟩
      | exact fun ⟨a, b⟩ => ⟨fun k => hPP _ _ _ _ _ _ _ (a k), fun k => hPP _ _ _ _ _ _ _ (b k)⟩
      | exact fun ⟨a, b⟩ => ⟨fun q hq k => hPP _ _ _ _ _ _ _ (a q hq k), fun k => hPP _ _ _ _ _ _ _ (b k)⟩
      | exact fun ⟨a, b, c, d, e⟩ => ⟨a, b, c, d, hPP _ _ _ _ _ _ _ e⟩
      | exact fun ⟨a, b, c, d⟩ => ⟨a, b, c, hPP _ _ _ _ _ _ _ d⟩
      | exact fun ⟨a, b, c, d, e, f⟩ => ⟨a, b, c, d, e, hPP _ _ _ _ _ _ _ f⟩
      | exact hC _ _ _ _ _ _ (zback_mono hPP)
      | exact fun ⟨a, b, c⟩ => ⟨a, b, hC _ _ _ _ _ _ (zback_mono hPP) c⟩
      | exact fun ⟨a, b⟩ => ⟨a, hC _ _ _ _ _ _ (zback_mono hPP) b⟩
      | exact fun ⟨a, b, c, d⟩ => ⟨a, b, c, hC _ _ _ _ _ _ (zback_mono hPP) d⟩
      | exact fun ⟨a, b, c, d⟩ => ⟨a, b, c, hC _ _ _ _ _ _ (zbackx_mono hPP) d⟩
theorem zm_ddiv (nx : Nat) : zmono (zt_ddiv nx) := by
  intro C R P P' hC hPP ls st h n cu su ht
  revert ht
  unfold zt_ddiv
  first
    | exact hPP _ _ _ _ _ _ _
    | exact id
    | exact fun ⟨a, b⟩ => ⟨a, hPP _ _ _ _ _ _ _ b⟩
    | (repeat' split) <;> first
      | exact hPP _ _ _ _ _ _ _
      | exact id
      | exact fun ⟨a, b⟩ => ⟨a, hPP _ _ _ _ _ _ _ b⟩
      | exact fun ⟨a, b⟩ => ⟨fun k => hPP _ _ _ _ _ _ _ (a k), fun k => hPP _ _ _ _ _ _ _ (b k)⟩
      | exact fun ⟨a, b⟩ => ⟨fun q hq k => hPP _ _ _ _ _ _ _ (a q hq k), fun k => hPP _ _ _ _ _ _ _ (b k)⟩
      | exact fun ⟨a, b, c, d, e⟩ => ⟨a, b, c, d, hPP _ _ _ _ _ _ _ e⟩
      | exact fun ⟨a, b, c, d⟩ => ⟨a, b, c, hPP _ _ _ _ _ _ _ d⟩
      | exact fun ⟨a, b, c, d, e, f⟩ => ⟨a, b, c, d, e, hPP _ _ _ _ _ _ _ f⟩
      | exact hC _ _ _ _ _ _ (zback_mono hPP)
      | exact fun ⟨a, b, c⟩ => ⟨a, b, hC _ _ _ _ _ _ (zback_mono hPP) c⟩
      | exact fun ⟨a, b⟩ => ⟨a, hC _ _ _ _ _ _ (zback_mono hPP) b⟩
      | exact fun ⟨a, b, c, d⟩ => ⟨a, b, c, hC _ _ _ _ _ _ (zback_mono hPP) d⟩
      | exact fun ⟨a, b, c, d⟩ => ⟨a, b, c, hC _ _ _ _ _ _ (zbackx_mono hPP) d⟩
theorem zm_dcmp (op : CmpOp) (nx : Nat) : zmono (zt_dcmp op nx) := by
  intro C R P P' hC hPP ls st h n cu su ht
  revert ht
  unfold zt_dcmp
  first
    | exact hPP _ _ _ _ _ _ _
    | exact id
    | exact fun ⟨a, b⟩ => ⟨a, hPP _ _ _ _ _ _ _ b⟩
    | (repeat' split) <;> first
      | exact hPP _ _ _ _ _ _ _
      | exact id
      | exact fun ⟨a, b⟩ => ⟨a, hPP _ _ _ _ _ _ _ b⟩
      | exact fun ⟨a, b⟩ => ⟨fun k => hPP _ _ _ _ _ _ _ (a k), fun k => hPP _ _ _ _ _ _ _ (b k)⟩
      | exact fun ⟨a, b⟩ => ⟨fun q hq k => hPP _ _ _ _ _ _ _ (a q hq k), fun k => hPP _ _ _ _ _ _ _ (b k)⟩
      | exact fun ⟨a, b, c, d, e⟩ => ⟨a, b, c, d, hPP _ _ _ _ _ _ _ e⟩
      | exact fun ⟨a, b, c, d⟩ => ⟨a, b, c, hPP _ _ _ _ _ _ _ d⟩
      | exact fun ⟨a, b, c, d, e, f⟩ => ⟨a, b, c, d, e, hPP _ _ _ _ _ _ _ f⟩
      | exact hC _ _ _ _ _ _ (zback_mono hPP)
      | exact fun ⟨a, b, c⟩ => ⟨a, b, hC _ _ _ _ _ _ (zback_mono hPP) c⟩
      | exact fun ⟨a, b⟩ => ⟨a, hC _ _ _ _ _ _ (zback_mono hPP) b⟩
      | exact fun ⟨a, b, c, d⟩ => ⟨a, b, c, hC _ _ _ _ _ _ (zback_mono hPP) d⟩
      | exact fun ⟨a, b, c, d⟩ => ⟨a, b, c, hC _ _ _ _ _ _ (zbackx_mono hPP) d⟩
theorem zm_leq (eq ne : Nat) : zmono (zt_leq eq ne) := by
  intro C R P P' hC hPP ls st h n cu su ht
  revert ht
  unfold zt_leq
  first
    | exact hPP _ _ _ _ _ _ _
    | exact id
    | exact fun ⟨a, b⟩ => ⟨a, hPP _ _ _ _ _ _ _ b⟩
    | (repeat' split) <;> first
      | exact hPP _ _ _ _ _ _ _
      | exact id
      | exact fun ⟨a, b⟩ => ⟨a, hPP _ _ _ _ _ _ _ b⟩
      | exact fun ⟨a, b⟩ => ⟨fun k => hPP _ _ _ _ _ _ _ (a k), fun k => hPP _ _ _ _ _ _ _ (b k)⟩
      | exact fun ⟨a, b⟩ => ⟨fun q hq k => hPP _ _ _ _ _ _ _ (a q hq k), fun k => hPP _ _ _ _ _ _ _ (b k)⟩
      | exact fun ⟨a, b, c, d, e⟩ => ⟨a, b, c, d, hPP _ _ _ _ _ _ _ e⟩
      | exact fun ⟨a, b, c, d⟩ => ⟨a, b, c, hPP _ _ _ _ _ _ _ d⟩
      | exact fun ⟨a, b, c, d, e, f⟩ => ⟨a, b, c, d, e, hPP _ _ _ _ _ _ _ f⟩
      | exact hC _ _ _ _ _ _ (zback_mono hPP)
      | exact fun ⟨a, b, c⟩ => ⟨a, b, hC _ _ _ _ _ _ (zback_mono hPP) c⟩
      | exact fun ⟨a, b⟩ => ⟨a, hC _ _ _ _ _ _ (zback_mono hPP) b⟩
      | exact fun ⟨a, b, c, d⟩ => ⟨a, b, c, hC _ _ _ _ _ _ (zback_mono hPP) d⟩
      | exact fun ⟨a, b, c, d⟩ => ⟨a, b, c, hC _ _ _ _ _ _ (zbackx_mono hPP) d⟩
theorem zm_pop (nx : Nat) : zmono (zt_pop nx) := by
  intro C R P P' hC hPP ls st h n cu su ht
  revert ht
  unfold zt_pop
  first
    | exact hPP _ _ _ _ _ _ _
    | exact id
    | exact fun ⟨a, b⟩ => ⟨a, hPP _ _ _ _ _ _ _ b⟩
    | (repeat' split) <;> first
      | exact hPP _ _ _ _ _ _ _
      | exact id
      | exact fun ⟨a, b⟩ => ⟨a, hPP _ _ _ _ _ _ _ b⟩
      | exact fun ⟨a, b⟩ => ⟨fun k => hPP _ _ _ _ _ _ _ (a k), fun k => hPP _ _ _ _ _ _ _ (b k)⟩
      | exact fun ⟨a, b⟩ => ⟨fun q hq k => hPP _ _ _ _ _ _ _ (a q hq k), fun k => hPP _ _ _ _ _ _ _ (b k)⟩
      | exact fun ⟨a, b, c, d, e⟩ => ⟨a, b, c, d, hPP _ _ _ _ _ _ _ e⟩
      | exact fun ⟨a, b, c, d⟩ => ⟨a, b, c, hPP _ _ _ _ _ _ _ d⟩
      | exact fun ⟨a, b, c, d, e, f⟩ => ⟨a, b, c, d, e, hPP _ _ _ _ _ _ _ f⟩
      | exact hC _ _ _ _ _ _ (zback_mono hPP)
      | exact fun ⟨a, b, c⟩ => ⟨a, b, hC _ _ _ _ _ _ (zback_mono hPP) c⟩
      | exact fun ⟨a, b⟩ => ⟨a, hC _ _ _ _ _ _ (zback_mono hPP) b⟩
      | exact fun ⟨a, b, c, d⟩ => ⟨a, b, c, hC _ _ _ _ _ _ (zback_mono hPP) d⟩
      | exact fun ⟨a, b, c, d⟩ => ⟨a, b, c, hC _ _ _ _ _ _ (zbackx_mono hPP) d⟩
theorem zm_dup (nx : Nat) : zmono (zt_dup nx) := by
  intro C R P P' hC hPP ls st h n cu su ht
  revert ht
  unfold zt_dup
  first
    | exact hPP _ _ _ _ _ _ _
    | exact id
    | exact fun ⟨a, b⟩ => ⟨a, hPP _ _ _ _ _ _ _ b⟩
    | (repeat' split) <;> first
      | exact hPP _ _ _ _ _ _ _
      | exact id
      | exact fun ⟨a, b⟩ => ⟨a, hPP _ _ _ _ _ _ _ b⟩
      | exact fun ⟨a, b⟩ => ⟨fun k => hPP _ _ _ _ _ _ _ (a k), fun k => hPP _ _ _ _ _ _ _ (b k)⟩
      | exact fun ⟨a, b⟩ => ⟨fun q hq k => hPP _ _ _ _ _ _ _ (a q hq k), fun k => hPP _ _ _ _ _ _ _ (b k)⟩
      | exact fun ⟨a, b, c, d, e⟩ => ⟨a, b, c, d, hPP _ _ _ _ _ _ _ e⟩
      | exact fun ⟨a, b, c, d⟩ => ⟨a, b, c, hPP _ _ _ _ _ _ _ d⟩
      | exact fun ⟨a, b, c, d, e, f⟩ => ⟨a, b, c, d, e, hPP _ _ _ _ _ _ _ f⟩
      | exact hC _ _ _ _ _ _ (zback_mono hPP)
      | exact fun ⟨a, b, c⟩ => ⟨a, b, hC _ _ _ _ _ _ (zback_mono hPP) c⟩
      | exact fun ⟨a, b⟩ => ⟨a, hC _ _ _ _ _ _ (zback_mono hPP) b⟩
      | exact fun ⟨a, b, c, d⟩ => ⟨a, b, c, hC _ _ _ _ _ _ (zback_mono hPP) d⟩
      | exact fun ⟨a, b, c, d⟩ => ⟨a, b, c, hC _ _ _ _ _ _ (zbackx_mono hPP) d⟩
theorem zm_dup2 (nx : Nat) : zmono (zt_dup2 nx) := by
  intro C R P P' hC hPP ls st h n cu su ht
  revert ht
  unfold zt_dup2
  first
    | exact hPP _ _ _ _ _ _ _
    | exact id
    | exact fun ⟨a, b⟩ => ⟨a, hPP _ _ _ _ _ _ _ b⟩
    | (repeat' split) <;> first
      | exact hPP _ _ _ _ _ _ _
      | exact id
      | exact fun ⟨a, b⟩ => ⟨a, hPP _ _ _ _ _ _ _ b⟩
      | exact fun ⟨a, b⟩ => ⟨fun k => hPP _ _ _ _ _ _ _ (a k), fun k => hPP _ _ _ _ _ _ _ (b k)⟩
      | exact fun ⟨a, b⟩ => ⟨fun q hq k => hPP _ _ _ _ _ _ _ (a q hq k), fun k => hPP _ _ _ _ _ _ _ (b k)⟩
      | exact fun ⟨a, b, c, d, e⟩ => ⟨a, b, c, d, hPP _ _ _ _ _ _ _ e⟩
      | exact fun ⟨a, b, c, d⟩ => ⟨a, b, c, hPP _ _ _ _ _ _ _ d⟩
      | exact fun ⟨a, b, c, d, e, f⟩ => ⟨a, b, c, d, e, hPP _ _ _ _ _ _ _ f⟩
      | exact hC _ _ _ _ _ _ (zback_mono hPP)
      | exact fun ⟨a, b, c⟩ => ⟨a, b, hC _ _ _ _ _ _ (zback_mono hPP) c⟩
      | exact fun ⟨a, b⟩ => ⟨a, hC _ _ _ _ _ _ (zback_mono hPP) b⟩
      | exact fun ⟨a, b, c, d⟩ => ⟨a, b, c, hC _ _ _ _ _ _ (zback_mono hPP) d⟩
      | exact fun ⟨a, b, c, d⟩ => ⟨a, b, c, hC _ _ _ _ _ _ (zbackx_mono hPP) d⟩
theorem zm_goto (tgt : Nat) (cl : List Nat) : zmono (zt_goto tgt cl) := by
  intro C R P P' hC hPP ls st h n cu su ht
  revert ht
  unfold zt_goto
  first
    | exact hPP _ _ _ _ _ _ _
    | exact id
    | exact fun ⟨a, b⟩ => ⟨a, hPP _ _ _ _ _ _ _ b⟩
    | (repeat' split) <;> first
      | exact hPP _ _ _ _ _ _ _
      | exact id
      | exact fun ⟨a, b⟩ => ⟨a, hPP _ _ _ _ _ _ _ b⟩
      | exact fun ⟨a, b⟩ => ⟨fun k => hPP _ _ _ _ _ _ _ (a k), fun k => hPP _ _ _ _ _ _ _ (b k)⟩
      | exact fun ⟨a, b⟩ => ⟨fun q hq k => hPP _ _ _ _ _ _ _ (a q hq k), fun k => hPP _ _ _ _ _ _ _ (b k)⟩
      | exact fun ⟨a, b, c, d, e⟩ => ⟨a, b, c, d, hPP _ _ _ _ _ _ _ e⟩
      | exact fun ⟨a, b, c, d⟩ => ⟨a, b, c, hPP _ _ _ _ _ _ _ d⟩
      | exact fun ⟨a, b, c, d, e, f⟩ => ⟨a, b, c, d, e, hPP _ _ _ _ _ _ _ f⟩
      | exact hC _ _ _ _ _ _ (zback_mono hPP)
      | exact fun ⟨a, b, c⟩ => ⟨a, b, hC _ _ _ _ _ _ (zback_mono hPP) c⟩
      | exact fun ⟨a, b⟩ => ⟨a, hC _ _ _ _ _ _ (zback_mono hPP) b⟩
      | exact fun ⟨a, b, c, d⟩ => ⟨a, b, c, hC _ _ _ _ _ _ (zback_mono hPP) d⟩
      | exact fun ⟨a, b, c, d⟩ => ⟨a, b, c, hC _ _ _ _ _ _ (zbackx_mono hPP) d⟩
theorem zm_ifeq (tgt nx : Nat) : zmono (zt_ifeq tgt nx) := by
  intro C R P P' hC hPP ls st h n cu su ht
  revert ht
  unfold zt_ifeq
  first
    | exact hPP _ _ _ _ _ _ _
    | exact id
    | exact fun ⟨a, b⟩ => ⟨a, hPP _ _ _ _ _ _ _ b⟩
    | (repeat' split) <;> first
      | exact hPP _ _ _ _ _ _ _
      | exact id
      | exact fun ⟨a, b⟩ => ⟨a, hPP _ _ _ _ _ _ _ b⟩
      | exact fun ⟨a, b⟩ => ⟨fun k => hPP _ _ _ _ _ _ _ (a k), fun k => hPP _ _ _ _ _ _ _ (b k)⟩
      | exact fun ⟨a, b⟩ => ⟨fun q hq k => hPP _ _ _ _ _ _ _ (a q hq k), fun k => hPP _ _ _ _ _ _ _ (b k)⟩
      | exact fun ⟨a, b, c, d, e⟩ => ⟨a, b, c, d, hPP _ _ _ _ _ _ _ e⟩
      | exact fun ⟨a, b, c, d⟩ => ⟨a, b, c, hPP _ _ _ _ _ _ _ d⟩
      | exact fun ⟨a, b, c, d, e, f⟩ => ⟨a, b, c, d, e, hPP _ _ _ _ _ _ _ f⟩
      | exact hC _ _ _ _ _ _ (zback_mono hPP)
      | exact fun ⟨a, b, c⟩ => ⟨a, b, hC _ _ _ _ _ _ (zback_mono hPP) c⟩
      | exact fun ⟨a, b⟩ => ⟨a, hC _ _ _ _ _ _ (zback_mono hPP) b⟩
      | exact fun ⟨a, b, c, d⟩ => ⟨a, b, c, hC _ _ _ _ _ _ (zback_mono hPP) d⟩
      | exact fun ⟨a, b, c, d⟩ => ⟨a, b, c, hC _ _ _ _ _ _ (zbackx_mono hPP) d⟩
theorem zm_ifne (tgt nx : Nat) : zmono (zt_ifne tgt nx) := by
  intro C R P P' hC hPP ls st h n cu su ht
  revert ht
  unfold zt_ifne
  first
    | exact hPP _ _ _ _ _ _ _
    | exact id
    | exact fun ⟨a, b⟩ => ⟨a, hPP _ _ _ _ _ _ _ b⟩
    | (repeat' split) <;> first
      | exact hPP _ _ _ _ _ _ _
      | exact id
      | exact fun ⟨a, b⟩ => ⟨a, hPP _ _ _ _ _ _ _ b⟩
      | exact fun ⟨a, b⟩ => ⟨fun k => hPP _ _ _ _ _ _ _ (a k), fun k => hPP _ _ _ _ _ _ _ (b k)⟩
      | exact fun ⟨a, b⟩ => ⟨fun q hq k => hPP _ _ _ _ _ _ _ (a q hq k), fun k => hPP _ _ _ _ _ _ _ (b k)⟩
      | exact fun ⟨a, b, c, d, e⟩ => ⟨a, b, c, d, hPP _ _ _ _ _ _ _ e⟩
      | exact fun ⟨a, b, c, d⟩ => ⟨a, b, c, hPP _ _ _ _ _ _ _ d⟩
      | exact fun ⟨a, b, c, d, e, f⟩ => ⟨a, b, c, d, e, hPP _ _ _ _ _ _ _ f⟩
      | exact hC _ _ _ _ _ _ (zback_mono hPP)
      | exact fun ⟨a, b, c⟩ => ⟨a, b, hC _ _ _ _ _ _ (zback_mono hPP) c⟩
      | exact fun ⟨a, b⟩ => ⟨a, hC _ _ _ _ _ _ (zback_mono hPP) b⟩
      | exact fun ⟨a, b, c, d⟩ => ⟨a, b, c, hC _ _ _ _ _ _ (zback_mono hPP) d⟩
      | exact fun ⟨a, b, c, d⟩ => ⟨a, b, c, hC _ _ _ _ _ _ (zbackx_mono hPP) d⟩
theorem zm_iflt (tgt nx : Nat) : zmono (zt_iflt tgt nx) := by
  intro C R P P' hC hPP ls st h n cu su ht
  revert ht
  unfold zt_iflt
  first
    | exact hPP _ _ _ _ _ _ _
    | exact id
    | exact fun ⟨a, b⟩ => ⟨a, hPP _ _ _ _ _ _ _ b⟩
    | (repeat' split) <;> first
      | exact hPP _ _ _ _ _ _ _
      | exact id
      | exact fun ⟨a, b⟩ => ⟨a, hPP _ _ _ _ _ _ _ b⟩
      | exact fun ⟨a, b⟩ => ⟨fun k => hPP _ _ _ _ _ _ _ (a k), fun k => hPP _ _ _ _ _ _ _ (b k)⟩
      | exact fun ⟨a, b⟩ => ⟨fun q hq k => hPP _ _ _ _ _ _ _ (a q hq k), fun k => hPP _ _ _ _ _ _ _ (b k)⟩
      | exact fun ⟨a, b, c, d, e⟩ => ⟨a, b, c, d, hPP _ _ _ _ _ _ _ e⟩
      | exact fun ⟨a, b, c, d⟩ => ⟨a, b, c, hPP _ _ _ _ _ _ _ d⟩
      | exact fun ⟨a, b, c, d, e, f⟩ => ⟨a, b, c, d, e, hPP _ _ _ _ _ _ _ f⟩
      | exact hC _ _ _ _ _ _ (zback_mono hPP)
      | exact fun ⟨a, b, c⟩ => ⟨a, b, hC _ _ _ _ _ _ (zback_mono hPP) c⟩
      | exact fun ⟨a, b⟩ => ⟨a, hC _ _ _ _ _ _ (zback_mono hPP) b⟩
      | exact fun ⟨a, b, c, d⟩ => ⟨a, b, c, hC _ _ _ _ _ _ (zback_mono hPP) d⟩
      | exact fun ⟨a, b, c, d⟩ => ⟨a, b, c, hC _ _ _ _ _ _ (zbackx_mono hPP) d⟩
theorem zm_ifle (tgt nx : Nat) : zmono (zt_ifle tgt nx) := by
  intro C R P P' hC hPP ls st h n cu su ht
  revert ht
  unfold zt_ifle
  first
    | exact hPP _ _ _ _ _ _ _
    | exact id
    | exact fun ⟨a, b⟩ => ⟨a, hPP _ _ _ _ _ _ _ b⟩
    | (repeat' split) <;> first
      | exact hPP _ _ _ _ _ _ _
      | exact id
      | exact fun ⟨a, b⟩ => ⟨a, hPP _ _ _ _ _ _ _ b⟩
      | exact fun ⟨a, b⟩ => ⟨fun k => hPP _ _ _ _ _ _ _ (a k), fun k => hPP _ _ _ _ _ _ _ (b k)⟩
      | exact fun ⟨a, b⟩ => ⟨fun q hq k => hPP _ _ _ _ _ _ _ (a q hq k), fun k => hPP _ _ _ _ _ _ _ (b k)⟩
      | exact fun ⟨a, b, c, d, e⟩ => ⟨a, b, c, d, hPP _ _ _ _ _ _ _ e⟩
      | exact fun ⟨a, b, c, d⟩ => ⟨a, b, c, hPP _ _ _ _ _ _ _ d⟩
      | exact fun ⟨a, b, c, d, e, f⟩ => ⟨a, b, c, d, e, hPP _ _ _ _ _ _ _ f⟩
      | exact hC _ _ _ _ _ _ (zback_mono hPP)
      | exact fun ⟨a, b, c⟩ => ⟨a, b, hC _ _ _ _ _ _ (zback_mono hPP) c⟩
      | exact fun ⟨a, b⟩ => ⟨a, hC _ _ _ _ _ _ (zback_mono hPP) b⟩
      | exact fun ⟨a, b, c, d⟩ => ⟨a, b, c, hC _ _ _ _ _ _ (zback_mono hPP) d⟩
      | exact fun ⟨a, b, c, d⟩ => ⟨a, b, c, hC _ _ _ _ _ _ (zbackx_mono hPP) d⟩
theorem zm_ifgt (tgt nx : Nat) : zmono (zt_ifgt tgt nx) := by
  intro C R P P' hC hPP ls st h n cu su ht
  revert ht
  unfold zt_ifgt
  first
    | exact hPP _ _ _ _ _ _ _
    | exact id
    | exact fun ⟨a, b⟩ => ⟨a, hPP _ _ _ _ _ _ _ b⟩
    | (repeat' split) <;> first
      | exact hPP _ _ _ _ _ _ _
      | exact id
      | exact fun ⟨a, b⟩ => ⟨a, hPP _ _ _ _ _ _ _ b⟩
      | exact fun ⟨a, b⟩ => ⟨fun k => hPP _ _ _ _ _ _ _ (a k), fun k => hPP _ _ _ _ _ _ _ (b k)⟩
      | exact fun ⟨a, b⟩ => ⟨fun q hq k => hPP _ _ _ _ _ _ _ (a q hq k), fun k => hPP _ _ _ _ _ _ _ (b k)⟩
      | exact fun ⟨a, b, c, d, e⟩ => ⟨a, b, c, d, hPP _ _ _ _ _ _ _ e⟩
      | exact fun ⟨a, b, c, d⟩ => ⟨a, b, c, hPP _ _ _ _ _ _ _ d⟩
      | exact fun ⟨a, b, c, d, e, f⟩ => ⟨a, b, c, d, e, hPP _ _ _ _ _ _ _ f⟩
      | exact hC _ _ _ _ _ _ (zback_mono hPP)
      | exact fun ⟨a, b, c⟩ => ⟨a, b, hC _ _ _ _ _ _ (zback_mono hPP) c⟩
      | exact fun ⟨a, b⟩ => ⟨a, hC _ _ _ _ _ _ (zback_mono hPP) b⟩
      | exact fun ⟨a, b, c, d⟩ => ⟨a, b, c, hC _ _ _ _ _ _ (zback_mono hPP) d⟩
      | exact fun ⟨a, b, c, d⟩ => ⟨a, b, c, hC _ _ _ _ _ _ (zbackx_mono hPP) d⟩
theorem zm_ifge (tgt nx : Nat) : zmono (zt_ifge tgt nx) := by
  intro C R P P' hC hPP ls st h n cu su ht
  revert ht
  unfold zt_ifge
  first
    | exact hPP _ _ _ _ _ _ _
    | exact id
    | exact fun ⟨a, b⟩ => ⟨a, hPP _ _ _ _ _ _ _ b⟩
    | (repeat' split) <;> first
      | exact hPP _ _ _ _ _ _ _
      | exact id
      | exact fun ⟨a, b⟩ => ⟨a, hPP _ _ _ _ _ _ _ b⟩
      | exact fun ⟨a, b⟩ => ⟨fun k => hPP _ _ _ _ _ _ _ (a k), fun k => hPP _ _ _ _ _ _ _ (b k)⟩
      | exact fun ⟨a, b⟩ => ⟨fun q hq k => hPP _ _ _ _ _ _ _ (a q hq k), fun k => hPP _ _ _ _ _ _ _ (b k)⟩
      | exact fun ⟨a, b, c, d, e⟩ => ⟨a, b, c, d, hPP _ _ _ _ _ _ _ e⟩
      | exact fun ⟨a, b, c, d⟩ => ⟨a, b, c, hPP _ _ _ _ _ _ _ d⟩
      | exact fun ⟨a, b, c, d, e, f⟩ => ⟨a, b, c, d, e, hPP _ _ _ _ _ _ _ f⟩
      | exact hC _ _ _ _ _ _ (zback_mono hPP)
      | exact fun ⟨a, b, c⟩ => ⟨a, b, hC _ _ _ _ _ _ (zback_mono hPP) c⟩
      | exact fun ⟨a, b⟩ => ⟨a, hC _ _ _ _ _ _ (zback_mono hPP) b⟩
      | exact fun ⟨a, b, c, d⟩ => ⟨a, b, c, hC _ _ _ _ _ _ (zback_mono hPP) d⟩
      | exact fun ⟨a, b, c, d⟩ => ⟨a, b, c, hC _ _ _ _ _ _ (zbackx_mono hPP) d⟩
theorem zm_icmpeq (tgt nx : Nat) : zmono (zt_icmpeq tgt nx) := by
  intro C R P P' hC hPP ls st h n cu su ht
  revert ht
  unfold zt_icmpeq
  first
    | exact hPP _ _ _ _ _ _ _
    | exact id
    | exact fun ⟨a, b⟩ => ⟨a, hPP _ _ _ _ _ _ _ b⟩
    | (repeat' split) <;> first
      | exact hPP _ _ _ _ _ _ _
      | exact id
      | exact fun ⟨a, b⟩ => ⟨a, hPP _ _ _ _ _ _ _ b⟩
      | exact fun ⟨a, b⟩ => ⟨fun k => hPP _ _ _ _ _ _ _ (a k), fun k => hPP _ _ _ _ _ _ _ (b k)⟩
      | exact fun ⟨a, b⟩ => ⟨fun q hq k => hPP _ _ _ _ _ _ _ (a q hq k), fun k => hPP _ _ _ _ _ _ _ (b k)⟩
      | exact fun ⟨a, b, c, d, e⟩ => ⟨a, b, c, d, hPP _ _ _ _ _ _ _ e⟩
      | exact fun ⟨a, b, c, d⟩ => ⟨a, b, c, hPP _ _ _ _ _ _ _ d⟩
      | exact fun ⟨a, b, c, d, e, f⟩ => ⟨a, b, c, d, e, hPP _ _ _ _ _ _ _ f⟩
      | exact hC _ _ _ _ _ _ (zback_mono hPP)
      | exact fun ⟨a, b, c⟩ => ⟨a, b, hC _ _ _ _ _ _ (zback_mono hPP) c⟩
      | exact fun ⟨a, b⟩ => ⟨a, hC _ _ _ _ _ _ (zback_mono hPP) b⟩
      | exact fun ⟨a, b, c, d⟩ => ⟨a, b, c, hC _ _ _ _ _ _ (zback_mono hPP) d⟩
      | exact fun ⟨a, b, c, d⟩ => ⟨a, b, c, hC _ _ _ _ _ _ (zbackx_mono hPP) d⟩
theorem zm_icmpne (tgt nx : Nat) : zmono (zt_icmpne tgt nx) := by
  intro C R P P' hC hPP ls st h n cu su ht
  revert ht
  unfold zt_icmpne
  first
    | exact hPP _ _ _ _ _ _ _
    | exact id
    | exact fun ⟨a, b⟩ => ⟨a, hPP _ _ _ _ _ _ _ b⟩
    | (repeat' split) <;> first
      | exact hPP _ _ _ _ _ _ _
      | exact id
      | exact fun ⟨a, b⟩ => ⟨a, hPP _ _ _ _ _ _ _ b⟩
      | exact fun ⟨a, b⟩ => ⟨fun k => hPP _ _ _ _ _ _ _ (a k), fun k => hPP _ _ _ _ _ _ _ (b k)⟩
      | exact fun ⟨a, b⟩ => ⟨fun q hq k => hPP _ _ _ _ _ _ _ (a q hq k), fun k => hPP _ _ _ _ _ _ _ (b k)⟩
      | exact fun ⟨a, b, c, d, e⟩ => ⟨a, b, c, d, hPP _ _ _ _ _ _ _ e⟩
      | exact fun ⟨a, b, c, d⟩ => ⟨a, b, c, hPP _ _ _ _ _ _ _ d⟩
      | exact fun ⟨a, b, c, d, e, f⟩ => ⟨a, b, c, d, e, hPP _ _ _ _ _ _ _ f⟩
      | exact hC _ _ _ _ _ _ (zback_mono hPP)
      | exact fun ⟨a, b, c⟩ => ⟨a, b, hC _ _ _ _ _ _ (zback_mono hPP) c⟩
      | exact fun ⟨a, b⟩ => ⟨a, hC _ _ _ _ _ _ (zback_mono hPP) b⟩
      | exact fun ⟨a, b, c, d⟩ => ⟨a, b, c, hC _ _ _ _ _ _ (zback_mono hPP) d⟩
      | exact fun ⟨a, b, c, d⟩ => ⟨a, b, c, hC _ _ _ _ _ _ (zbackx_mono hPP) d⟩
theorem zm_icmplt (tgt nx : Nat) : zmono (zt_icmplt tgt nx) := by
  intro C R P P' hC hPP ls st h n cu su ht
  revert ht
  unfold zt_icmplt
  first
    | exact hPP _ _ _ _ _ _ _
    | exact id
    | exact fun ⟨a, b⟩ => ⟨a, hPP _ _ _ _ _ _ _ b⟩
    | (repeat' split) <;> first
      | exact hPP _ _ _ _ _ _ _
      | exact id
      | exact fun ⟨a, b⟩ => ⟨a, hPP _ _ _ _ _ _ _ b⟩
      | exact fun ⟨a, b⟩ => ⟨fun k => hPP _ _ _ _ _ _ _ (a k), fun k => hPP _ _ _ _ _ _ _ (b k)⟩
      | exact fun ⟨a, b⟩ => ⟨fun q hq k => hPP _ _ _ _ _ _ _ (a q hq k), fun k => hPP _ _ _ _ _ _ _ (b k)⟩
      | exact fun ⟨a, b, c, d, e⟩ => ⟨a, b, c, d, hPP _ _ _ _ _ _ _ e⟩
      | exact fun ⟨a, b, c, d⟩ => ⟨a, b, c, hPP _ _ _ _ _ _ _ d⟩
      | exact fun ⟨a, b, c, d, e, f⟩ => ⟨a, b, c, d, e, hPP _ _ _ _ _ _ _ f⟩
      | exact hC _ _ _ _ _ _ (zback_mono hPP)
      | exact fun ⟨a, b, c⟩ => ⟨a, b, hC _ _ _ _ _ _ (zback_mono hPP) c⟩
      | exact fun ⟨a, b⟩ => ⟨a, hC _ _ _ _ _ _ (zback_mono hPP) b⟩
      | exact fun ⟨a, b, c, d⟩ => ⟨a, b, c, hC _ _ _ _ _ _ (zback_mono hPP) d⟩
      | exact fun ⟨a, b, c, d⟩ => ⟨a, b, c, hC _ _ _ _ _ _ (zbackx_mono hPP) d⟩
theorem zm_icmpge (tgt nx : Nat) : zmono (zt_icmpge tgt nx) := by
  intro C R P P' hC hPP ls st h n cu su ht
  revert ht
  unfold zt_icmpge
  first
    | exact hPP _ _ _ _ _ _ _
    | exact id
    | exact fun ⟨a, b⟩ => ⟨a, hPP _ _ _ _ _ _ _ b⟩
    | (repeat' split) <;> first
      | exact hPP _ _ _ _ _ _ _
      | exact id
      | exact fun ⟨a, b⟩ => ⟨a, hPP _ _ _ _ _ _ _ b⟩
      | exact fun ⟨a, b⟩ => ⟨fun k => hPP _ _ _ _ _ _ _ (a k), fun k => hPP _ _ _ _ _ _ _ (b k)⟩
      | exact fun ⟨a, b⟩ => ⟨fun q hq k => hPP _ _ _ _ _ _ _ (a q hq k), fun k => hPP _ _ _ _ _ _ _ (b k)⟩
      | exact fun ⟨a, b, c, d, e⟩ => ⟨a, b, c, d, hPP _ _ _ _ _ _ _ e⟩
      | exact fun ⟨a, b, c, d⟩ => ⟨a, b, c, hPP _ _ _ _ _ _ _ d⟩
      | exact fun ⟨a, b, c, d, e, f⟩ => ⟨a, b, c, d, e, hPP _ _ _ _ _ _ _ f⟩
      | exact hC _ _ _ _ _ _ (zback_mono hPP)
      | exact fun ⟨a, b, c⟩ => ⟨a, b, hC _ _ _ _ _ _ (zback_mono hPP) c⟩
      | exact fun ⟨a, b⟩ => ⟨a, hC _ _ _ _ _ _ (zback_mono hPP) b⟩
      | exact fun ⟨a, b, c, d⟩ => ⟨a, b, c, hC _ _ _ _ _ _ (zback_mono hPP) d⟩
      | exact fun ⟨a, b, c, d⟩ => ⟨a, b, c, hC _ _ _ _ _ _ (zbackx_mono hPP) d⟩
theorem zm_icmpgt (tgt nx : Nat) : zmono (zt_icmpgt tgt nx) := by
  intro C R P P' hC hPP ls st h n cu su ht
  revert ht
  unfold zt_icmpgt
  first
    | exact hPP _ _ _ _ _ _ _
    | exact id
    | exact fun ⟨a, b⟩ => ⟨a, hPP _ _ _ _ _ _ _ b⟩
    | (repeat' split) <;> first
      | exact hPP _ _ _ _ _ _ _
      | exact id
      | exact fun ⟨a, b⟩ => ⟨a, hPP _ _ _ _ _ _ _ b⟩
      | exact fun ⟨a, b⟩ => ⟨fun k => hPP _ _ _ _ _ _ _ (a k), fun k => hPP _ _ _ _ _ _ _ (b k)⟩
      | exact fun ⟨a, b⟩ => ⟨fun q hq k => hPP _ _ _ _ _ _ _ (a q hq k), fun k => hPP _ _ _ _ _ _ _ (b k)⟩
      | exact fun ⟨a, b, c, d, e⟩ => ⟨a, b, c, d, hPP _ _ _ _ _ _ _ e⟩
      | exact fun ⟨a, b, c, d⟩ => ⟨a, b, c, hPP _ _ _ _ _ _ _ d⟩
      | exact fun ⟨a, b, c, d, e, f⟩ => ⟨a, b, c, d, e, hPP _ _ _ _ _ _ _ f⟩
      | exact hC _ _ _ _ _ _ (zback_mono hPP)
      | exact fun ⟨a, b, c⟩ => ⟨a, b, hC _ _ _ _ _ _ (zback_mono hPP) c⟩
      | exact fun ⟨a, b⟩ => ⟨a, hC _ _ _ _ _ _ (zback_mono hPP) b⟩
      | exact fun ⟨a, b, c, d⟩ => ⟨a, b, c, hC _ _ _ _ _ _ (zback_mono hPP) d⟩
      | exact fun ⟨a, b, c, d⟩ => ⟨a, b, c, hC _ _ _ _ _ _ (zbackx_mono hPP) d⟩
theorem zm_icmple (tgt nx : Nat) : zmono (zt_icmple tgt nx) := by
  intro C R P P' hC hPP ls st h n cu su ht
  revert ht
  unfold zt_icmple
  first
    | exact hPP _ _ _ _ _ _ _
    | exact id
    | exact fun ⟨a, b⟩ => ⟨a, hPP _ _ _ _ _ _ _ b⟩
    | (repeat' split) <;> first
      | exact hPP _ _ _ _ _ _ _
      | exact id
      | exact fun ⟨a, b⟩ => ⟨a, hPP _ _ _ _ _ _ _ b⟩
      | exact fun ⟨a, b⟩ => ⟨fun k => hPP _ _ _ _ _ _ _ (a k), fun k => hPP _ _ _ _ _ _ _ (b k)⟩
      | exact fun ⟨a, b⟩ => ⟨fun q hq k => hPP _ _ _ _ _ _ _ (a q hq k), fun k => hPP _ _ _ _ _ _ _ (b k)⟩
      | exact fun ⟨a, b, c, d, e⟩ => ⟨a, b, c, d, hPP _ _ _ _ _ _ _ e⟩
      | exact fun ⟨a, b, c, d⟩ => ⟨a, b, c, hPP _ _ _ _ _ _ _ d⟩
      | exact fun ⟨a, b, c, d, e, f⟩ => ⟨a, b, c, d, e, hPP _ _ _ _ _ _ _ f⟩
      | exact hC _ _ _ _ _ _ (zback_mono hPP)
      | exact fun ⟨a, b, c⟩ => ⟨a, b, hC _ _ _ _ _ _ (zback_mono hPP) c⟩
      | exact fun ⟨a, b⟩ => ⟨a, hC _ _ _ _ _ _ (zback_mono hPP) b⟩
      | exact fun ⟨a, b, c, d⟩ => ⟨a, b, c, hC _ _ _ _ _ _ (zback_mono hPP) d⟩
      | exact fun ⟨a, b, c, d⟩ => ⟨a, b, c, hC _ _ _ _ _ _ (zbackx_mono hPP) d⟩
theorem zm_ifnull (nx : Nat) : zmono (zt_ifnull nx) := by
  intro C R P P' hC hPP ls st h n cu su ht
  revert ht
  unfold zt_ifnull
  first
    | exact hPP _ _ _ _ _ _ _
    | exact id
    | exact fun ⟨a, b⟩ => ⟨a, hPP _ _ _ _ _ _ _ b⟩
    | (repeat' split) <;> first
      | exact hPP _ _ _ _ _ _ _
      | exact id
      | exact fun ⟨a, b⟩ => ⟨a, hPP _ _ _ _ _ _ _ b⟩
      | exact fun ⟨a, b⟩ => ⟨fun k => hPP _ _ _ _ _ _ _ (a k), fun k => hPP _ _ _ _ _ _ _ (b k)⟩
      | exact fun ⟨a, b⟩ => ⟨fun q hq k => hPP _ _ _ _ _ _ _ (a q hq k), fun k => hPP _ _ _ _ _ _ _ (b k)⟩
      | exact fun ⟨a, b, c, d, e⟩ => ⟨a, b, c, d, hPP _ _ _ _ _ _ _ e⟩
      | exact fun ⟨a, b, c, d⟩ => ⟨a, b, c, hPP _ _ _ _ _ _ _ d⟩
      | exact fun ⟨a, b, c, d, e, f⟩ => ⟨a, b, c, d, e, hPP _ _ _ _ _ _ _ f⟩
      | exact hC _ _ _ _ _ _ (zback_mono hPP)
      | exact fun ⟨a, b, c⟩ => ⟨a, b, hC _ _ _ _ _ _ (zback_mono hPP) c⟩
      | exact fun ⟨a, b⟩ => ⟨a, hC _ _ _ _ _ _ (zback_mono hPP) b⟩
      | exact fun ⟨a, b, c, d⟩ => ⟨a, b, c, hC _ _ _ _ _ _ (zback_mono hPP) d⟩
      | exact fun ⟨a, b, c, d⟩ => ⟨a, b, c, hC _ _ _ _ _ _ (zbackx_mono hPP) d⟩
theorem zm_lookup (ps : List (Int32 × Nat)) (dflt : Nat) : zmono (zt_lookup ps dflt) := by
  intro C R P P' hC hPP ls st h n cu su ht
  revert ht
  unfold zt_lookup
  first
    | exact hPP _ _ _ _ _ _ _
    | exact id
    | exact fun ⟨a, b⟩ => ⟨a, hPP _ _ _ _ _ _ _ b⟩
    | (repeat' split) <;> first
      | exact hPP _ _ _ _ _ _ _
      | exact id
      | exact fun ⟨a, b⟩ => ⟨a, hPP _ _ _ _ _ _ _ b⟩
      | exact fun ⟨a, b⟩ => ⟨fun k => hPP _ _ _ _ _ _ _ (a k), fun k => hPP _ _ _ _ _ _ _ (b k)⟩
      | exact fun ⟨a, b⟩ => ⟨fun q hq k => hPP _ _ _ _ _ _ _ (a q hq k), fun k => hPP _ _ _ _ _ _ _ (b k)⟩
      | exact fun ⟨a, b, c, d, e⟩ => ⟨a, b, c, d, hPP _ _ _ _ _ _ _ e⟩
      | exact fun ⟨a, b, c, d⟩ => ⟨a, b, c, hPP _ _ _ _ _ _ _ d⟩
      | exact fun ⟨a, b, c, d, e, f⟩ => ⟨a, b, c, d, e, hPP _ _ _ _ _ _ _ f⟩
      | exact hC _ _ _ _ _ _ (zback_mono hPP)
      | exact fun ⟨a, b, c⟩ => ⟨a, b, hC _ _ _ _ _ _ (zback_mono hPP) c⟩
      | exact fun ⟨a, b⟩ => ⟨a, hC _ _ _ _ _ _ (zback_mono hPP) b⟩
      | exact fun ⟨a, b, c, d⟩ => ⟨a, b, c, hC _ _ _ _ _ _ (zback_mono hPP) d⟩
      | exact fun ⟨a, b, c, d⟩ => ⟨a, b, c, hC _ _ _ _ _ _ (zbackx_mono hPP) d⟩
theorem zm_getf (ci k nx : Nat) : zmono (zt_getf ci k nx) := by
  intro C R P P' hC hPP ls st h n cu su ht
  revert ht
  unfold zt_getf
  first
    | exact hPP _ _ _ _ _ _ _
    | exact id
    | exact fun ⟨a, b⟩ => ⟨a, hPP _ _ _ _ _ _ _ b⟩
    | (repeat' split) <;> first
      | exact hPP _ _ _ _ _ _ _
      | exact id
      | exact fun ⟨a, b⟩ => ⟨a, hPP _ _ _ _ _ _ _ b⟩
      | exact fun ⟨a, b⟩ => ⟨fun k => hPP _ _ _ _ _ _ _ (a k), fun k => hPP _ _ _ _ _ _ _ (b k)⟩
      | exact fun ⟨a, b⟩ => ⟨fun q hq k => hPP _ _ _ _ _ _ _ (a q hq k), fun k => hPP _ _ _ _ _ _ _ (b k)⟩
      | exact fun ⟨a, b, c, d, e⟩ => ⟨a, b, c, d, hPP _ _ _ _ _ _ _ e⟩
      | exact fun ⟨a, b, c, d⟩ => ⟨a, b, c, hPP _ _ _ _ _ _ _ d⟩
      | exact fun ⟨a, b, c, d, e, f⟩ => ⟨a, b, c, d, e, hPP _ _ _ _ _ _ _ f⟩
      | exact hC _ _ _ _ _ _ (zback_mono hPP)
      | exact fun ⟨a, b, c⟩ => ⟨a, b, hC _ _ _ _ _ _ (zback_mono hPP) c⟩
      | exact fun ⟨a, b⟩ => ⟨a, hC _ _ _ _ _ _ (zback_mono hPP) b⟩
      | exact fun ⟨a, b, c, d⟩ => ⟨a, b, c, hC _ _ _ _ _ _ (zback_mono hPP) d⟩
      | exact fun ⟨a, b, c, d⟩ => ⟨a, b, c, hC _ _ _ _ _ _ (zbackx_mono hPP) d⟩
theorem zm_putf (ci k : Nat) (ty : FieldType) (nx : Nat) : zmono (zt_putf ci k ty nx) := by
  intro C R P P' hC hPP ls st h n cu su ht
  revert ht
  unfold zt_putf
  first
    | exact hPP _ _ _ _ _ _ _
    | exact id
    | exact fun ⟨a, b⟩ => ⟨a, hPP _ _ _ _ _ _ _ b⟩
    | (repeat' split) <;> first
      | exact hPP _ _ _ _ _ _ _
      | exact id
      | exact fun ⟨a, b⟩ => ⟨a, hPP _ _ _ _ _ _ _ b⟩
      | exact fun ⟨a, b⟩ => ⟨fun k => hPP _ _ _ _ _ _ _ (a k), fun k => hPP _ _ _ _ _ _ _ (b k)⟩
      | exact fun ⟨a, b⟩ => ⟨fun q hq k => hPP _ _ _ _ _ _ _ (a q hq k), fun k => hPP _ _ _ _ _ _ _ (b k)⟩
      | exact fun ⟨a, b, c, d, e⟩ => ⟨a, b, c, d, hPP _ _ _ _ _ _ _ e⟩
      | exact fun ⟨a, b, c, d⟩ => ⟨a, b, c, hPP _ _ _ _ _ _ _ d⟩
      | exact fun ⟨a, b, c, d, e, f⟩ => ⟨a, b, c, d, e, hPP _ _ _ _ _ _ _ f⟩
      | exact hC _ _ _ _ _ _ (zback_mono hPP)
      | exact fun ⟨a, b, c⟩ => ⟨a, b, hC _ _ _ _ _ _ (zback_mono hPP) c⟩
      | exact fun ⟨a, b⟩ => ⟨a, hC _ _ _ _ _ _ (zback_mono hPP) b⟩
      | exact fun ⟨a, b, c, d⟩ => ⟨a, b, c, hC _ _ _ _ _ _ (zback_mono hPP) d⟩
      | exact fun ⟨a, b, c, d⟩ => ⟨a, b, c, hC _ _ _ _ _ _ (zbackx_mono hPP) d⟩
theorem zm_iald (nx : Nat) : zmono (zt_iald nx) := by
  intro C R P P' hC hPP ls st h n cu su ht
  revert ht
  unfold zt_iald
  first
    | exact hPP _ _ _ _ _ _ _
    | exact id
    | exact fun ⟨a, b⟩ => ⟨a, hPP _ _ _ _ _ _ _ b⟩
    | (repeat' split) <;> first
      | exact hPP _ _ _ _ _ _ _
      | exact id
      | exact fun ⟨a, b⟩ => ⟨a, hPP _ _ _ _ _ _ _ b⟩
      | exact fun ⟨a, b⟩ => ⟨fun k => hPP _ _ _ _ _ _ _ (a k), fun k => hPP _ _ _ _ _ _ _ (b k)⟩
      | exact fun ⟨a, b⟩ => ⟨fun q hq k => hPP _ _ _ _ _ _ _ (a q hq k), fun k => hPP _ _ _ _ _ _ _ (b k)⟩
      | exact fun ⟨a, b, c, d, e⟩ => ⟨a, b, c, d, hPP _ _ _ _ _ _ _ e⟩
      | exact fun ⟨a, b, c, d⟩ => ⟨a, b, c, hPP _ _ _ _ _ _ _ d⟩
      | exact fun ⟨a, b, c, d, e, f⟩ => ⟨a, b, c, d, e, hPP _ _ _ _ _ _ _ f⟩
      | exact hC _ _ _ _ _ _ (zback_mono hPP)
      | exact fun ⟨a, b, c⟩ => ⟨a, b, hC _ _ _ _ _ _ (zback_mono hPP) c⟩
      | exact fun ⟨a, b⟩ => ⟨a, hC _ _ _ _ _ _ (zback_mono hPP) b⟩
      | exact fun ⟨a, b, c, d⟩ => ⟨a, b, c, hC _ _ _ _ _ _ (zback_mono hPP) d⟩
      | exact fun ⟨a, b, c, d⟩ => ⟨a, b, c, hC _ _ _ _ _ _ (zbackx_mono hPP) d⟩
theorem zm_zald (nx : Nat) : zmono (zt_zald nx) := by
  intro C R P P' hC hPP ls st h n cu su ht
  revert ht
  unfold zt_zald
  first
    | exact hPP _ _ _ _ _ _ _
    | exact id
    | exact fun ⟨a, b⟩ => ⟨a, hPP _ _ _ _ _ _ _ b⟩
    | (repeat' split) <;> first
      | exact hPP _ _ _ _ _ _ _
      | exact id
      | exact fun ⟨a, b⟩ => ⟨a, hPP _ _ _ _ _ _ _ b⟩
      | exact fun ⟨a, b⟩ => ⟨fun k => hPP _ _ _ _ _ _ _ (a k), fun k => hPP _ _ _ _ _ _ _ (b k)⟩
      | exact fun ⟨a, b⟩ => ⟨fun q hq k => hPP _ _ _ _ _ _ _ (a q hq k), fun k => hPP _ _ _ _ _ _ _ (b k)⟩
      | exact fun ⟨a, b, c, d, e⟩ => ⟨a, b, c, d, hPP _ _ _ _ _ _ _ e⟩
      | exact fun ⟨a, b, c, d⟩ => ⟨a, b, c, hPP _ _ _ _ _ _ _ d⟩
      | exact fun ⟨a, b, c, d, e, f⟩ => ⟨a, b, c, d, e, hPP _ _ _ _ _ _ _ f⟩
      | exact hC _ _ _ _ _ _ (zback_mono hPP)
      | exact fun ⟨a, b, c⟩ => ⟨a, b, hC _ _ _ _ _ _ (zback_mono hPP) c⟩
      | exact fun ⟨a, b⟩ => ⟨a, hC _ _ _ _ _ _ (zback_mono hPP) b⟩
      | exact fun ⟨a, b, c, d⟩ => ⟨a, b, c, hC _ _ _ _ _ _ (zback_mono hPP) d⟩
      | exact fun ⟨a, b, c, d⟩ => ⟨a, b, c, hC _ _ _ _ _ _ (zbackx_mono hPP) d⟩
theorem zm_lald (nx : Nat) : zmono (zt_lald nx) := by
  intro C R P P' hC hPP ls st h n cu su ht
  revert ht
  unfold zt_lald
  first
    | exact hPP _ _ _ _ _ _ _
    | exact id
    | exact fun ⟨a, b⟩ => ⟨a, hPP _ _ _ _ _ _ _ b⟩
    | (repeat' split) <;> first
      | exact hPP _ _ _ _ _ _ _
      | exact id
      | exact fun ⟨a, b⟩ => ⟨a, hPP _ _ _ _ _ _ _ b⟩
      | exact fun ⟨a, b⟩ => ⟨fun k => hPP _ _ _ _ _ _ _ (a k), fun k => hPP _ _ _ _ _ _ _ (b k)⟩
      | exact fun ⟨a, b⟩ => ⟨fun q hq k => hPP _ _ _ _ _ _ _ (a q hq k), fun k => hPP _ _ _ _ _ _ _ (b k)⟩
      | exact fun ⟨a, b, c, d, e⟩ => ⟨a, b, c, d, hPP _ _ _ _ _ _ _ e⟩
      | exact fun ⟨a, b, c, d⟩ => ⟨a, b, c, hPP _ _ _ _ _ _ _ d⟩
      | exact fun ⟨a, b, c, d, e, f⟩ => ⟨a, b, c, d, e, hPP _ _ _ _ _ _ _ f⟩
      | exact hC _ _ _ _ _ _ (zback_mono hPP)
      | exact fun ⟨a, b, c⟩ => ⟨a, b, hC _ _ _ _ _ _ (zback_mono hPP) c⟩
      | exact fun ⟨a, b⟩ => ⟨a, hC _ _ _ _ _ _ (zback_mono hPP) b⟩
      | exact fun ⟨a, b, c, d⟩ => ⟨a, b, c, hC _ _ _ _ _ _ (zback_mono hPP) d⟩
      | exact fun ⟨a, b, c, d⟩ => ⟨a, b, c, hC _ _ _ _ _ _ (zbackx_mono hPP) d⟩
theorem zm_dald (nx : Nat) : zmono (zt_dald nx) := by
  intro C R P P' hC hPP ls st h n cu su ht
  revert ht
  unfold zt_dald
  first
    | exact hPP _ _ _ _ _ _ _
    | exact id
    | exact fun ⟨a, b⟩ => ⟨a, hPP _ _ _ _ _ _ _ b⟩
    | (repeat' split) <;> first
      | exact hPP _ _ _ _ _ _ _
      | exact id
      | exact fun ⟨a, b⟩ => ⟨a, hPP _ _ _ _ _ _ _ b⟩
      | exact fun ⟨a, b⟩ => ⟨fun k => hPP _ _ _ _ _ _ _ (a k), fun k => hPP _ _ _ _ _ _ _ (b k)⟩
      | exact fun ⟨a, b⟩ => ⟨fun q hq k => hPP _ _ _ _ _ _ _ (a q hq k), fun k => hPP _ _ _ _ _ _ _ (b k)⟩
      | exact fun ⟨a, b, c, d, e⟩ => ⟨a, b, c, d, hPP _ _ _ _ _ _ _ e⟩
      | exact fun ⟨a, b, c, d⟩ => ⟨a, b, c, hPP _ _ _ _ _ _ _ d⟩
      | exact fun ⟨a, b, c, d, e, f⟩ => ⟨a, b, c, d, e, hPP _ _ _ _ _ _ _ f⟩
      | exact hC _ _ _ _ _ _ (zback_mono hPP)
      | exact fun ⟨a, b, c⟩ => ⟨a, b, hC _ _ _ _ _ _ (zback_mono hPP) c⟩
      | exact fun ⟨a, b⟩ => ⟨a, hC _ _ _ _ _ _ (zback_mono hPP) b⟩
      | exact fun ⟨a, b, c, d⟩ => ⟨a, b, c, hC _ _ _ _ _ _ (zback_mono hPP) d⟩
      | exact fun ⟨a, b, c, d⟩ => ⟨a, b, c, hC _ _ _ _ _ _ (zbackx_mono hPP) d⟩
theorem zm_aald (nx : Nat) : zmono (zt_aald nx) := by
  intro C R P P' hC hPP ls st h n cu su ht
  revert ht
  unfold zt_aald
  first
    | exact hPP _ _ _ _ _ _ _
    | exact id
    | exact fun ⟨a, b⟩ => ⟨a, hPP _ _ _ _ _ _ _ b⟩
    | (repeat' split) <;> first
      | exact hPP _ _ _ _ _ _ _
      | exact id
      | exact fun ⟨a, b⟩ => ⟨a, hPP _ _ _ _ _ _ _ b⟩
      | exact fun ⟨a, b⟩ => ⟨fun k => hPP _ _ _ _ _ _ _ (a k), fun k => hPP _ _ _ _ _ _ _ (b k)⟩
      | exact fun ⟨a, b⟩ => ⟨fun q hq k => hPP _ _ _ _ _ _ _ (a q hq k), fun k => hPP _ _ _ _ _ _ _ (b k)⟩
      | exact fun ⟨a, b, c, d, e⟩ => ⟨a, b, c, d, hPP _ _ _ _ _ _ _ e⟩
      | exact fun ⟨a, b, c, d⟩ => ⟨a, b, c, hPP _ _ _ _ _ _ _ d⟩
      | exact fun ⟨a, b, c, d, e, f⟩ => ⟨a, b, c, d, e, hPP _ _ _ _ _ _ _ f⟩
      | exact hC _ _ _ _ _ _ (zback_mono hPP)
      | exact fun ⟨a, b, c⟩ => ⟨a, b, hC _ _ _ _ _ _ (zback_mono hPP) c⟩
      | exact fun ⟨a, b⟩ => ⟨a, hC _ _ _ _ _ _ (zback_mono hPP) b⟩
      | exact fun ⟨a, b, c, d⟩ => ⟨a, b, c, hC _ _ _ _ _ _ (zback_mono hPP) d⟩
      | exact fun ⟨a, b, c, d⟩ => ⟨a, b, c, hC _ _ _ _ _ _ (zbackx_mono hPP) d⟩
theorem zm_iast (nx : Nat) : zmono (zt_iast nx) := by
  intro C R P P' hC hPP ls st h n cu su ht
  revert ht
  unfold zt_iast
  first
    | exact hPP _ _ _ _ _ _ _
    | exact id
    | exact fun ⟨a, b⟩ => ⟨a, hPP _ _ _ _ _ _ _ b⟩
    | (repeat' split) <;> first
      | exact hPP _ _ _ _ _ _ _
      | exact id
      | exact fun ⟨a, b⟩ => ⟨a, hPP _ _ _ _ _ _ _ b⟩
      | exact fun ⟨a, b⟩ => ⟨fun k => hPP _ _ _ _ _ _ _ (a k), fun k => hPP _ _ _ _ _ _ _ (b k)⟩
      | exact fun ⟨a, b⟩ => ⟨fun q hq k => hPP _ _ _ _ _ _ _ (a q hq k), fun k => hPP _ _ _ _ _ _ _ (b k)⟩
      | exact fun ⟨a, b, c, d, e⟩ => ⟨a, b, c, d, hPP _ _ _ _ _ _ _ e⟩
      | exact fun ⟨a, b, c, d⟩ => ⟨a, b, c, hPP _ _ _ _ _ _ _ d⟩
      | exact fun ⟨a, b, c, d, e, f⟩ => ⟨a, b, c, d, e, hPP _ _ _ _ _ _ _ f⟩
      | exact hC _ _ _ _ _ _ (zback_mono hPP)
      | exact fun ⟨a, b, c⟩ => ⟨a, b, hC _ _ _ _ _ _ (zback_mono hPP) c⟩
      | exact fun ⟨a, b⟩ => ⟨a, hC _ _ _ _ _ _ (zback_mono hPP) b⟩
      | exact fun ⟨a, b, c, d⟩ => ⟨a, b, c, hC _ _ _ _ _ _ (zback_mono hPP) d⟩
      | exact fun ⟨a, b, c, d⟩ => ⟨a, b, c, hC _ _ _ _ _ _ (zbackx_mono hPP) d⟩
theorem zm_zast (nx : Nat) : zmono (zt_zast nx) := by
  intro C R P P' hC hPP ls st h n cu su ht
  revert ht
  unfold zt_zast
  first
    | exact hPP _ _ _ _ _ _ _
    | exact id
    | exact fun ⟨a, b⟩ => ⟨a, hPP _ _ _ _ _ _ _ b⟩
    | (repeat' split) <;> first
      | exact hPP _ _ _ _ _ _ _
      | exact id
      | exact fun ⟨a, b⟩ => ⟨a, hPP _ _ _ _ _ _ _ b⟩
      | exact fun ⟨a, b⟩ => ⟨fun k => hPP _ _ _ _ _ _ _ (a k), fun k => hPP _ _ _ _ _ _ _ (b k)⟩
      | exact fun ⟨a, b⟩ => ⟨fun q hq k => hPP _ _ _ _ _ _ _ (a q hq k), fun k => hPP _ _ _ _ _ _ _ (b k)⟩
      | exact fun ⟨a, b, c, d, e⟩ => ⟨a, b, c, d, hPP _ _ _ _ _ _ _ e⟩
      | exact fun ⟨a, b, c, d⟩ => ⟨a, b, c, hPP _ _ _ _ _ _ _ d⟩
      | exact fun ⟨a, b, c, d, e, f⟩ => ⟨a, b, c, d, e, hPP _ _ _ _ _ _ _ f⟩
      | exact hC _ _ _ _ _ _ (zback_mono hPP)
      | exact fun ⟨a, b, c⟩ => ⟨a, b, hC _ _ _ _ _ _ (zback_mono hPP) c⟩
      | exact fun ⟨a, b⟩ => ⟨a, hC _ _ _ _ _ _ (zback_mono hPP) b⟩
      | exact fun ⟨a, b, c, d⟩ => ⟨a, b, c, hC _ _ _ _ _ _ (zback_mono hPP) d⟩
      | exact fun ⟨a, b, c, d⟩ => ⟨a, b, c, hC _ _ _ _ _ _ (zbackx_mono hPP) d⟩
theorem zm_last (nx : Nat) : zmono (zt_last nx) := by
  intro C R P P' hC hPP ls st h n cu su ht
  revert ht
  unfold zt_last
  first
    | exact hPP _ _ _ _ _ _ _
    | exact id
    | exact fun ⟨a, b⟩ => ⟨a, hPP _ _ _ _ _ _ _ b⟩
    | (repeat' split) <;> first
      | exact hPP _ _ _ _ _ _ _
      | exact id
      | exact fun ⟨a, b⟩ => ⟨a, hPP _ _ _ _ _ _ _ b⟩
      | exact fun ⟨a, b⟩ => ⟨fun k => hPP _ _ _ _ _ _ _ (a k), fun k => hPP _ _ _ _ _ _ _ (b k)⟩
      | exact fun ⟨a, b⟩ => ⟨fun q hq k => hPP _ _ _ _ _ _ _ (a q hq k), fun k => hPP _ _ _ _ _ _ _ (b k)⟩
      | exact fun ⟨a, b, c, d, e⟩ => ⟨a, b, c, d, hPP _ _ _ _ _ _ _ e⟩
      | exact fun ⟨a, b, c, d⟩ => ⟨a, b, c, hPP _ _ _ _ _ _ _ d⟩
      | exact fun ⟨a, b, c, d, e, f⟩ => ⟨a, b, c, d, e, hPP _ _ _ _ _ _ _ f⟩
      | exact hC _ _ _ _ _ _ (zback_mono hPP)
      | exact fun ⟨a, b, c⟩ => ⟨a, b, hC _ _ _ _ _ _ (zback_mono hPP) c⟩
      | exact fun ⟨a, b⟩ => ⟨a, hC _ _ _ _ _ _ (zback_mono hPP) b⟩
      | exact fun ⟨a, b, c, d⟩ => ⟨a, b, c, hC _ _ _ _ _ _ (zback_mono hPP) d⟩
      | exact fun ⟨a, b, c, d⟩ => ⟨a, b, c, hC _ _ _ _ _ _ (zbackx_mono hPP) d⟩
theorem zm_dast (nx : Nat) : zmono (zt_dast nx) := by
  intro C R P P' hC hPP ls st h n cu su ht
  revert ht
  unfold zt_dast
  first
    | exact hPP _ _ _ _ _ _ _
    | exact id
    | exact fun ⟨a, b⟩ => ⟨a, hPP _ _ _ _ _ _ _ b⟩
    | (repeat' split) <;> first
      | exact hPP _ _ _ _ _ _ _
      | exact id
      | exact fun ⟨a, b⟩ => ⟨a, hPP _ _ _ _ _ _ _ b⟩
      | exact fun ⟨a, b⟩ => ⟨fun k => hPP _ _ _ _ _ _ _ (a k), fun k => hPP _ _ _ _ _ _ _ (b k)⟩
      | exact fun ⟨a, b⟩ => ⟨fun q hq k => hPP _ _ _ _ _ _ _ (a q hq k), fun k => hPP _ _ _ _ _ _ _ (b k)⟩
      | exact fun ⟨a, b, c, d, e⟩ => ⟨a, b, c, d, hPP _ _ _ _ _ _ _ e⟩
      | exact fun ⟨a, b, c, d⟩ => ⟨a, b, c, hPP _ _ _ _ _ _ _ d⟩
      | exact fun ⟨a, b, c, d, e, f⟩ => ⟨a, b, c, d, e, hPP _ _ _ _ _ _ _ f⟩
      | exact hC _ _ _ _ _ _ (zback_mono hPP)
      | exact fun ⟨a, b, c⟩ => ⟨a, b, hC _ _ _ _ _ _ (zback_mono hPP) c⟩
      | exact fun ⟨a, b⟩ => ⟨a, hC _ _ _ _ _ _ (zback_mono hPP) b⟩
      | exact fun ⟨a, b, c, d⟩ => ⟨a, b, c, hC _ _ _ _ _ _ (zback_mono hPP) d⟩
      | exact fun ⟨a, b, c, d⟩ => ⟨a, b, c, hC _ _ _ _ _ _ (zbackx_mono hPP) d⟩
theorem zm_aast (ci nx : Nat) : zmono (zt_aast ci nx) := by
  intro C R P P' hC hPP ls st h n cu su ht
  revert ht
  unfold zt_aast
  first
    | exact hPP _ _ _ _ _ _ _
    | exact id
    | exact fun ⟨a, b⟩ => ⟨a, hPP _ _ _ _ _ _ _ b⟩
    | (repeat' split) <;> first
      | exact hPP _ _ _ _ _ _ _
      | exact id
      | exact fun ⟨a, b⟩ => ⟨a, hPP _ _ _ _ _ _ _ b⟩
      | exact fun ⟨a, b⟩ => ⟨fun k => hPP _ _ _ _ _ _ _ (a k), fun k => hPP _ _ _ _ _ _ _ (b k)⟩
      | exact fun ⟨a, b⟩ => ⟨fun q hq k => hPP _ _ _ _ _ _ _ (a q hq k), fun k => hPP _ _ _ _ _ _ _ (b k)⟩
      | exact fun ⟨a, b, c, d, e⟩ => ⟨a, b, c, d, hPP _ _ _ _ _ _ _ e⟩
      | exact fun ⟨a, b, c, d⟩ => ⟨a, b, c, hPP _ _ _ _ _ _ _ d⟩
      | exact fun ⟨a, b, c, d, e, f⟩ => ⟨a, b, c, d, e, hPP _ _ _ _ _ _ _ f⟩
      | exact hC _ _ _ _ _ _ (zback_mono hPP)
      | exact fun ⟨a, b, c⟩ => ⟨a, b, hC _ _ _ _ _ _ (zback_mono hPP) c⟩
      | exact fun ⟨a, b⟩ => ⟨a, hC _ _ _ _ _ _ (zback_mono hPP) b⟩
      | exact fun ⟨a, b, c, d⟩ => ⟨a, b, c, hC _ _ _ _ _ _ (zback_mono hPP) d⟩
      | exact fun ⟨a, b, c, d⟩ => ⟨a, b, c, hC _ _ _ _ _ _ (zbackx_mono hPP) d⟩
theorem zm_alen (nx : Nat) : zmono (zt_alen nx) := by
  intro C R P P' hC hPP ls st h n cu su ht
  revert ht
  unfold zt_alen
  first
    | exact hPP _ _ _ _ _ _ _
    | exact id
    | exact fun ⟨a, b⟩ => ⟨a, hPP _ _ _ _ _ _ _ b⟩
    | (repeat' split) <;> first
      | exact hPP _ _ _ _ _ _ _
      | exact id
      | exact fun ⟨a, b⟩ => ⟨a, hPP _ _ _ _ _ _ _ b⟩
      | exact fun ⟨a, b⟩ => ⟨fun k => hPP _ _ _ _ _ _ _ (a k), fun k => hPP _ _ _ _ _ _ _ (b k)⟩
      | exact fun ⟨a, b⟩ => ⟨fun q hq k => hPP _ _ _ _ _ _ _ (a q hq k), fun k => hPP _ _ _ _ _ _ _ (b k)⟩
      | exact fun ⟨a, b, c, d, e⟩ => ⟨a, b, c, d, hPP _ _ _ _ _ _ _ e⟩
      | exact fun ⟨a, b, c, d⟩ => ⟨a, b, c, hPP _ _ _ _ _ _ _ d⟩
      | exact fun ⟨a, b, c, d, e, f⟩ => ⟨a, b, c, d, e, hPP _ _ _ _ _ _ _ f⟩
      | exact hC _ _ _ _ _ _ (zback_mono hPP)
      | exact fun ⟨a, b, c⟩ => ⟨a, b, hC _ _ _ _ _ _ (zback_mono hPP) c⟩
      | exact fun ⟨a, b⟩ => ⟨a, hC _ _ _ _ _ _ (zback_mono hPP) b⟩
      | exact fun ⟨a, b, c, d⟩ => ⟨a, b, c, hC _ _ _ _ _ _ (zback_mono hPP) d⟩
      | exact fun ⟨a, b, c, d⟩ => ⟨a, b, c, hC _ _ _ _ _ _ (zbackx_mono hPP) d⟩
theorem zm_newi (lim : Nat × Nat) (nx : Nat) : zmono (zt_newi lim nx) := by
  intro C R P P' hC hPP ls st h n cu su ht
  revert ht
  unfold zt_newi
  first
    | exact hPP _ _ _ _ _ _ _
    | exact id
    | exact fun ⟨a, b⟩ => ⟨a, hPP _ _ _ _ _ _ _ b⟩
    | (repeat' split) <;> first
      | exact hPP _ _ _ _ _ _ _
      | exact id
      | exact fun ⟨a, b⟩ => ⟨a, hPP _ _ _ _ _ _ _ b⟩
      | exact fun ⟨a, b⟩ => ⟨fun k => hPP _ _ _ _ _ _ _ (a k), fun k => hPP _ _ _ _ _ _ _ (b k)⟩
      | exact fun ⟨a, b⟩ => ⟨fun q hq k => hPP _ _ _ _ _ _ _ (a q hq k), fun k => hPP _ _ _ _ _ _ _ (b k)⟩
      | exact fun ⟨a, b, c, d, e⟩ => ⟨a, b, c, d, hPP _ _ _ _ _ _ _ e⟩
      | exact fun ⟨a, b, c, d⟩ => ⟨a, b, c, hPP _ _ _ _ _ _ _ d⟩
      | exact fun ⟨a, b, c, d, e, f⟩ => ⟨a, b, c, d, e, hPP _ _ _ _ _ _ _ f⟩
      | exact hC _ _ _ _ _ _ (zback_mono hPP)
      | exact fun ⟨a, b, c⟩ => ⟨a, b, hC _ _ _ _ _ _ (zback_mono hPP) c⟩
      | exact fun ⟨a, b⟩ => ⟨a, hC _ _ _ _ _ _ (zback_mono hPP) b⟩
      | exact fun ⟨a, b, c, d⟩ => ⟨a, b, c, hC _ _ _ _ _ _ (zback_mono hPP) d⟩
      | exact fun ⟨a, b, c, d⟩ => ⟨a, b, c, hC _ _ _ _ _ _ (zbackx_mono hPP) d⟩
theorem zm_newz (lim : Nat × Nat) (nx : Nat) : zmono (zt_newz lim nx) := by
  intro C R P P' hC hPP ls st h n cu su ht
  revert ht
  unfold zt_newz
  first
    | exact hPP _ _ _ _ _ _ _
    | exact id
    | exact fun ⟨a, b⟩ => ⟨a, hPP _ _ _ _ _ _ _ b⟩
    | (repeat' split) <;> first
      | exact hPP _ _ _ _ _ _ _
      | exact id
      | exact fun ⟨a, b⟩ => ⟨a, hPP _ _ _ _ _ _ _ b⟩
      | exact fun ⟨a, b⟩ => ⟨fun k => hPP _ _ _ _ _ _ _ (a k), fun k => hPP _ _ _ _ _ _ _ (b k)⟩
      | exact fun ⟨a, b⟩ => ⟨fun q hq k => hPP _ _ _ _ _ _ _ (a q hq k), fun k => hPP _ _ _ _ _ _ _ (b k)⟩
      | exact fun ⟨a, b, c, d, e⟩ => ⟨a, b, c, d, hPP _ _ _ _ _ _ _ e⟩
      | exact fun ⟨a, b, c, d⟩ => ⟨a, b, c, hPP _ _ _ _ _ _ _ d⟩
      | exact fun ⟨a, b, c, d, e, f⟩ => ⟨a, b, c, d, e, hPP _ _ _ _ _ _ _ f⟩
      | exact hC _ _ _ _ _ _ (zback_mono hPP)
      | exact fun ⟨a, b, c⟩ => ⟨a, b, hC _ _ _ _ _ _ (zback_mono hPP) c⟩
      | exact fun ⟨a, b⟩ => ⟨a, hC _ _ _ _ _ _ (zback_mono hPP) b⟩
      | exact fun ⟨a, b, c, d⟩ => ⟨a, b, c, hC _ _ _ _ _ _ (zback_mono hPP) d⟩
      | exact fun ⟨a, b, c, d⟩ => ⟨a, b, c, hC _ _ _ _ _ _ (zbackx_mono hPP) d⟩
theorem zm_newl (lim : Nat × Nat) (nx : Nat) : zmono (zt_newl lim nx) := by
  intro C R P P' hC hPP ls st h n cu su ht
  revert ht
  unfold zt_newl
  first
    | exact hPP _ _ _ _ _ _ _
    | exact id
    | exact fun ⟨a, b⟩ => ⟨a, hPP _ _ _ _ _ _ _ b⟩
    | (repeat' split) <;> first
      | exact hPP _ _ _ _ _ _ _
      | exact id
      | exact fun ⟨a, b⟩ => ⟨a, hPP _ _ _ _ _ _ _ b⟩
      | exact fun ⟨a, b⟩ => ⟨fun k => hPP _ _ _ _ _ _ _ (a k), fun k => hPP _ _ _ _ _ _ _ (b k)⟩
      | exact fun ⟨a, b⟩ => ⟨fun q hq k => hPP _ _ _ _ _ _ _ (a q hq k), fun k => hPP _ _ _ _ _ _ _ (b k)⟩
      | exact fun ⟨a, b, c, d, e⟩ => ⟨a, b, c, d, hPP _ _ _ _ _ _ _ e⟩
      | exact fun ⟨a, b, c, d⟩ => ⟨a, b, c, hPP _ _ _ _ _ _ _ d⟩
      | exact fun ⟨a, b, c, d, e, f⟩ => ⟨a, b, c, d, e, hPP _ _ _ _ _ _ _ f⟩
      | exact hC _ _ _ _ _ _ (zback_mono hPP)
      | exact fun ⟨a, b, c⟩ => ⟨a, b, hC _ _ _ _ _ _ (zback_mono hPP) c⟩
      | exact fun ⟨a, b⟩ => ⟨a, hC _ _ _ _ _ _ (zback_mono hPP) b⟩
      | exact fun ⟨a, b, c, d⟩ => ⟨a, b, c, hC _ _ _ _ _ _ (zback_mono hPP) d⟩
      | exact fun ⟨a, b, c, d⟩ => ⟨a, b, c, hC _ _ _ _ _ _ (zbackx_mono hPP) d⟩
theorem zm_newd (lim : Nat × Nat) (nx : Nat) : zmono (zt_newd lim nx) := by
  intro C R P P' hC hPP ls st h n cu su ht
  revert ht
  unfold zt_newd
  first
    | exact hPP _ _ _ _ _ _ _
    | exact id
    | exact fun ⟨a, b⟩ => ⟨a, hPP _ _ _ _ _ _ _ b⟩
    | (repeat' split) <;> first
      | exact hPP _ _ _ _ _ _ _
      | exact id
      | exact fun ⟨a, b⟩ => ⟨a, hPP _ _ _ _ _ _ _ b⟩
      | exact fun ⟨a, b⟩ => ⟨fun k => hPP _ _ _ _ _ _ _ (a k), fun k => hPP _ _ _ _ _ _ _ (b k)⟩
      | exact fun ⟨a, b⟩ => ⟨fun q hq k => hPP _ _ _ _ _ _ _ (a q hq k), fun k => hPP _ _ _ _ _ _ _ (b k)⟩
      | exact fun ⟨a, b, c, d, e⟩ => ⟨a, b, c, d, hPP _ _ _ _ _ _ _ e⟩
      | exact fun ⟨a, b, c, d⟩ => ⟨a, b, c, hPP _ _ _ _ _ _ _ d⟩
      | exact fun ⟨a, b, c, d, e, f⟩ => ⟨a, b, c, d, e, hPP _ _ _ _ _ _ _ f⟩
      | exact hC _ _ _ _ _ _ (zback_mono hPP)
      | exact fun ⟨a, b, c⟩ => ⟨a, b, hC _ _ _ _ _ _ (zback_mono hPP) c⟩
      | exact fun ⟨a, b⟩ => ⟨a, hC _ _ _ _ _ _ (zback_mono hPP) b⟩
      | exact fun ⟨a, b, c, d⟩ => ⟨a, b, c, hC _ _ _ _ _ _ (zback_mono hPP) d⟩
      | exact fun ⟨a, b, c, d⟩ => ⟨a, b, c, hC _ _ _ _ _ _ (zbackx_mono hPP) d⟩
theorem zm_newa (lim : Nat × Nat) (nx : Nat) : zmono (zt_newa lim nx) := by
  intro C R P P' hC hPP ls st h n cu su ht
  revert ht
  unfold zt_newa
  first
    | exact hPP _ _ _ _ _ _ _
    | exact id
    | exact fun ⟨a, b⟩ => ⟨a, hPP _ _ _ _ _ _ _ b⟩
    | (repeat' split) <;> first
      | exact hPP _ _ _ _ _ _ _
      | exact id
      | exact fun ⟨a, b⟩ => ⟨a, hPP _ _ _ _ _ _ _ b⟩
      | exact fun ⟨a, b⟩ => ⟨fun k => hPP _ _ _ _ _ _ _ (a k), fun k => hPP _ _ _ _ _ _ _ (b k)⟩
      | exact fun ⟨a, b⟩ => ⟨fun q hq k => hPP _ _ _ _ _ _ _ (a q hq k), fun k => hPP _ _ _ _ _ _ _ (b k)⟩
      | exact fun ⟨a, b, c, d, e⟩ => ⟨a, b, c, d, hPP _ _ _ _ _ _ _ e⟩
      | exact fun ⟨a, b, c, d⟩ => ⟨a, b, c, hPP _ _ _ _ _ _ _ d⟩
      | exact fun ⟨a, b, c, d, e, f⟩ => ⟨a, b, c, d, e, hPP _ _ _ _ _ _ _ f⟩
      | exact hC _ _ _ _ _ _ (zback_mono hPP)
      | exact fun ⟨a, b, c⟩ => ⟨a, b, hC _ _ _ _ _ _ (zback_mono hPP) c⟩
      | exact fun ⟨a, b⟩ => ⟨a, hC _ _ _ _ _ _ (zback_mono hPP) b⟩
      | exact fun ⟨a, b, c, d⟩ => ⟨a, b, c, hC _ _ _ _ _ _ (zback_mono hPP) d⟩
      | exact fun ⟨a, b, c, d⟩ => ⟨a, b, c, hC _ _ _ _ _ _ (zbackx_mono hPP) d⟩
theorem zm_new (ci : Nat) (fs : List Value) (lim : Nat × Nat) (nx : Nat) : zmono (zt_new ci fs lim nx) := by
  intro C R P P' hC hPP ls st h n cu su ht
  revert ht
  unfold zt_new
  first
    | exact hPP _ _ _ _ _ _ _
    | exact id
    | exact fun ⟨a, b⟩ => ⟨a, hPP _ _ _ _ _ _ _ b⟩
    | (repeat' split) <;> first
      | exact hPP _ _ _ _ _ _ _
      | exact id
      | exact fun ⟨a, b⟩ => ⟨a, hPP _ _ _ _ _ _ _ b⟩
      | exact fun ⟨a, b⟩ => ⟨fun k => hPP _ _ _ _ _ _ _ (a k), fun k => hPP _ _ _ _ _ _ _ (b k)⟩
      | exact fun ⟨a, b⟩ => ⟨fun q hq k => hPP _ _ _ _ _ _ _ (a q hq k), fun k => hPP _ _ _ _ _ _ _ (b k)⟩
      | exact fun ⟨a, b, c, d, e⟩ => ⟨a, b, c, d, hPP _ _ _ _ _ _ _ e⟩
      | exact fun ⟨a, b, c, d⟩ => ⟨a, b, c, hPP _ _ _ _ _ _ _ d⟩
      | exact fun ⟨a, b, c, d, e, f⟩ => ⟨a, b, c, d, e, hPP _ _ _ _ _ _ _ f⟩
      | exact hC _ _ _ _ _ _ (zback_mono hPP)
      | exact fun ⟨a, b, c⟩ => ⟨a, b, hC _ _ _ _ _ _ (zback_mono hPP) c⟩
      | exact fun ⟨a, b⟩ => ⟨a, hC _ _ _ _ _ _ (zback_mono hPP) b⟩
      | exact fun ⟨a, b, c, d⟩ => ⟨a, b, c, hC _ _ _ _ _ _ (zback_mono hPP) d⟩
      | exact fun ⟨a, b, c, d⟩ => ⟨a, b, c, hC _ _ _ _ _ _ (zbackx_mono hPP) d⟩
theorem zm_objinit (nx : Nat) : zmono (zt_objinit nx) := by
  intro C R P P' hC hPP ls st h n cu su ht
  revert ht
  unfold zt_objinit
  first
    | exact hPP _ _ _ _ _ _ _
    | exact id
    | exact fun ⟨a, b⟩ => ⟨a, hPP _ _ _ _ _ _ _ b⟩
    | (repeat' split) <;> first
      | exact hPP _ _ _ _ _ _ _
      | exact id
      | exact fun ⟨a, b⟩ => ⟨a, hPP _ _ _ _ _ _ _ b⟩
      | exact fun ⟨a, b⟩ => ⟨fun k => hPP _ _ _ _ _ _ _ (a k), fun k => hPP _ _ _ _ _ _ _ (b k)⟩
      | exact fun ⟨a, b⟩ => ⟨fun q hq k => hPP _ _ _ _ _ _ _ (a q hq k), fun k => hPP _ _ _ _ _ _ _ (b k)⟩
      | exact fun ⟨a, b, c, d, e⟩ => ⟨a, b, c, d, hPP _ _ _ _ _ _ _ e⟩
      | exact fun ⟨a, b, c, d⟩ => ⟨a, b, c, hPP _ _ _ _ _ _ _ d⟩
      | exact fun ⟨a, b, c, d, e, f⟩ => ⟨a, b, c, d, e, hPP _ _ _ _ _ _ _ f⟩
      | exact hC _ _ _ _ _ _ (zback_mono hPP)
      | exact fun ⟨a, b, c⟩ => ⟨a, b, hC _ _ _ _ _ _ (zback_mono hPP) c⟩
      | exact fun ⟨a, b⟩ => ⟨a, hC _ _ _ _ _ _ (zback_mono hPP) b⟩
      | exact fun ⟨a, b, c, d⟩ => ⟨a, b, c, hC _ _ _ _ _ _ (zback_mono hPP) d⟩
      | exact fun ⟨a, b, c, d⟩ => ⟨a, b, c, hC _ _ _ _ _ _ (zbackx_mono hPP) d⟩
theorem zm_call (y k nx : Nat) : zmono (zt_call y k nx) := by
  intro C R P P' hC hPP ls st h n cu su ht
  revert ht
  unfold zt_call
  first
    | exact hPP _ _ _ _ _ _ _
    | exact id
    | exact fun ⟨a, b⟩ => ⟨a, hPP _ _ _ _ _ _ _ b⟩
    | (repeat' split) <;> first
      | exact hPP _ _ _ _ _ _ _
      | exact id
      | exact fun ⟨a, b⟩ => ⟨a, hPP _ _ _ _ _ _ _ b⟩
      | exact fun ⟨a, b⟩ => ⟨fun k => hPP _ _ _ _ _ _ _ (a k), fun k => hPP _ _ _ _ _ _ _ (b k)⟩
      | exact fun ⟨a, b⟩ => ⟨fun q hq k => hPP _ _ _ _ _ _ _ (a q hq k), fun k => hPP _ _ _ _ _ _ _ (b k)⟩
      | exact fun ⟨a, b, c, d, e⟩ => ⟨a, b, c, d, hPP _ _ _ _ _ _ _ e⟩
      | exact fun ⟨a, b, c, d⟩ => ⟨a, b, c, hPP _ _ _ _ _ _ _ d⟩
      | exact fun ⟨a, b, c, d, e, f⟩ => ⟨a, b, c, d, e, hPP _ _ _ _ _ _ _ f⟩
      | exact hC _ _ _ _ _ _ (zback_mono hPP)
      | exact fun ⟨a, b, c⟩ => ⟨a, b, hC _ _ _ _ _ _ (zback_mono hPP) c⟩
      | exact fun ⟨a, b⟩ => ⟨a, hC _ _ _ _ _ _ (zback_mono hPP) b⟩
      | exact fun ⟨a, b, c, d⟩ => ⟨a, b, c, hC _ _ _ _ _ _ (zback_mono hPP) d⟩
      | exact fun ⟨a, b, c, d⟩ => ⟨a, b, c, hC _ _ _ _ _ _ (zbackx_mono hPP) d⟩
theorem zm_callv (ci y k nx : Nat) : zmono (zt_callv ci y k nx) := by
  intro C R P P' hC hPP ls st h n cu su ht
  revert ht
  unfold zt_callv
  first
    | exact hPP _ _ _ _ _ _ _
    | exact id
    | exact fun ⟨a, b⟩ => ⟨a, hPP _ _ _ _ _ _ _ b⟩
    | (repeat' split) <;> first
      | exact hPP _ _ _ _ _ _ _
      | exact id
      | exact fun ⟨a, b⟩ => ⟨a, hPP _ _ _ _ _ _ _ b⟩
      | exact fun ⟨a, b⟩ => ⟨fun k => hPP _ _ _ _ _ _ _ (a k), fun k => hPP _ _ _ _ _ _ _ (b k)⟩
      | exact fun ⟨a, b⟩ => ⟨fun q hq k => hPP _ _ _ _ _ _ _ (a q hq k), fun k => hPP _ _ _ _ _ _ _ (b k)⟩
      | exact fun ⟨a, b, c, d, e⟩ => ⟨a, b, c, d, hPP _ _ _ _ _ _ _ e⟩
      | exact fun ⟨a, b, c, d⟩ => ⟨a, b, c, hPP _ _ _ _ _ _ _ d⟩
      | exact fun ⟨a, b, c, d, e, f⟩ => ⟨a, b, c, d, e, hPP _ _ _ _ _ _ _ f⟩
      | exact hC _ _ _ _ _ _ (zback_mono hPP)
      | exact fun ⟨a, b, c⟩ => ⟨a, b, hC _ _ _ _ _ _ (zback_mono hPP) c⟩
      | exact fun ⟨a, b⟩ => ⟨a, hC _ _ _ _ _ _ (zback_mono hPP) b⟩
      | exact fun ⟨a, b, c, d⟩ => ⟨a, b, c, hC _ _ _ _ _ _ (zback_mono hPP) d⟩
      | exact fun ⟨a, b, c, d⟩ => ⟨a, b, c, hC _ _ _ _ _ _ (zbackx_mono hPP) d⟩
theorem zm_callm (y k mk sk : Nat) (lim : Nat × Nat) (nx : Nat) : zmono (zt_callm y k mk sk lim nx) := by
  intro C R P P' hC hPP ls st h n cu su ht
  revert ht
  unfold zt_callm
  first
    | exact hPP _ _ _ _ _ _ _
    | exact id
    | exact fun ⟨a, b⟩ => ⟨a, hPP _ _ _ _ _ _ _ b⟩
    | (repeat' split) <;> first
      | exact hPP _ _ _ _ _ _ _
      | exact id
      | exact fun ⟨a, b⟩ => ⟨a, hPP _ _ _ _ _ _ _ b⟩
      | exact fun ⟨a, b⟩ => ⟨fun k => hPP _ _ _ _ _ _ _ (a k), fun k => hPP _ _ _ _ _ _ _ (b k)⟩
      | exact fun ⟨a, b⟩ => ⟨fun q hq k => hPP _ _ _ _ _ _ _ (a q hq k), fun k => hPP _ _ _ _ _ _ _ (b k)⟩
      | exact fun ⟨a, b, c, d, e⟩ => ⟨a, b, c, d, hPP _ _ _ _ _ _ _ e⟩
      | exact fun ⟨a, b, c, d⟩ => ⟨a, b, c, hPP _ _ _ _ _ _ _ d⟩
      | exact fun ⟨a, b, c, d, e, f⟩ => ⟨a, b, c, d, e, hPP _ _ _ _ _ _ _ f⟩
      | exact hC _ _ _ _ _ _ (zback_mono hPP)
      | exact fun ⟨a, b, c⟩ => ⟨a, b, hC _ _ _ _ _ _ (zback_mono hPP) c⟩
      | exact fun ⟨a, b⟩ => ⟨a, hC _ _ _ _ _ _ (zback_mono hPP) b⟩
      | exact fun ⟨a, b, c, d⟩ => ⟨a, b, c, hC _ _ _ _ _ _ (zback_mono hPP) d⟩
      | exact fun ⟨a, b, c, d⟩ => ⟨a, b, c, hC _ _ _ _ _ _ (zbackx_mono hPP) d⟩
theorem zm_callx (ci y k mk sk : Nat) (lim : Nat × Nat) (hs : List (Nat × Nat × Nat)) (nx : Nat) : zmono (zt_callx ci y k mk sk lim hs nx) := by
  intro C R P P' hC hPP ls st h n cu su ht
  revert ht
  unfold zt_callx
  first
    | exact hPP _ _ _ _ _ _ _
    | exact id
    | exact fun ⟨a, b⟩ => ⟨a, hPP _ _ _ _ _ _ _ b⟩
    | (repeat' split) <;> first
      | exact hPP _ _ _ _ _ _ _
      | exact id
      | exact fun ⟨a, b⟩ => ⟨a, hPP _ _ _ _ _ _ _ b⟩
      | exact fun ⟨a, b⟩ => ⟨fun k => hPP _ _ _ _ _ _ _ (a k), fun k => hPP _ _ _ _ _ _ _ (b k)⟩
      | exact fun ⟨a, b⟩ => ⟨fun q hq k => hPP _ _ _ _ _ _ _ (a q hq k), fun k => hPP _ _ _ _ _ _ _ (b k)⟩
      | exact fun ⟨a, b, c, d, e⟩ => ⟨a, b, c, d, hPP _ _ _ _ _ _ _ e⟩
      | exact fun ⟨a, b, c, d⟩ => ⟨a, b, c, hPP _ _ _ _ _ _ _ d⟩
      | exact fun ⟨a, b, c, d, e, f⟩ => ⟨a, b, c, d, e, hPP _ _ _ _ _ _ _ f⟩
      | exact hC _ _ _ _ _ _ (zback_mono hPP)
      | exact fun ⟨a, b, c⟩ => ⟨a, b, hC _ _ _ _ _ _ (zback_mono hPP) c⟩
      | exact fun ⟨a, b⟩ => ⟨a, hC _ _ _ _ _ _ (zback_mono hPP) b⟩
      | exact fun ⟨a, b, c, d⟩ => ⟨a, b, c, hC _ _ _ _ _ _ (zback_mono hPP) d⟩
      | exact fun ⟨a, b, c, d⟩ => ⟨a, b, c, hC _ _ _ _ _ _ (zbackx_mono hPP) d⟩
theorem zm_callvm (ci y k mk sk : Nat) (lim : Nat × Nat) (nx : Nat) : zmono (zt_callvm ci y k mk sk lim nx) := by
  intro C R P P' hC hPP ls st h n cu su ht
  revert ht
  unfold zt_callvm
  first
    | exact hPP _ _ _ _ _ _ _
    | exact id
    | exact fun ⟨a, b⟩ => ⟨a, hPP _ _ _ _ _ _ _ b⟩
    | (repeat' split) <;> first
      | exact hPP _ _ _ _ _ _ _
      | exact id
      | exact fun ⟨a, b⟩ => ⟨a, hPP _ _ _ _ _ _ _ b⟩
      | exact fun ⟨a, b⟩ => ⟨fun k => hPP _ _ _ _ _ _ _ (a k), fun k => hPP _ _ _ _ _ _ _ (b k)⟩
      | exact fun ⟨a, b⟩ => ⟨fun q hq k => hPP _ _ _ _ _ _ _ (a q hq k), fun k => hPP _ _ _ _ _ _ _ (b k)⟩
      | exact fun ⟨a, b, c, d, e⟩ => ⟨a, b, c, d, hPP _ _ _ _ _ _ _ e⟩
      | exact fun ⟨a, b, c, d⟩ => ⟨a, b, c, hPP _ _ _ _ _ _ _ d⟩
      | exact fun ⟨a, b, c, d, e, f⟩ => ⟨a, b, c, d, e, hPP _ _ _ _ _ _ _ f⟩
      | exact hC _ _ _ _ _ _ (zback_mono hPP)
      | exact fun ⟨a, b, c⟩ => ⟨a, b, hC _ _ _ _ _ _ (zback_mono hPP) c⟩
      | exact fun ⟨a, b⟩ => ⟨a, hC _ _ _ _ _ _ (zback_mono hPP) b⟩
      | exact fun ⟨a, b, c, d⟩ => ⟨a, b, c, hC _ _ _ _ _ _ (zback_mono hPP) d⟩
      | exact fun ⟨a, b, c, d⟩ => ⟨a, b, c, hC _ _ _ _ _ _ (zbackx_mono hPP) d⟩
theorem zm_imax (nx : Nat) : zmono (zt_imax nx) := by
  intro C R P P' hC hPP ls st h n cu su ht
  revert ht
  unfold zt_imax
  first
    | exact hPP _ _ _ _ _ _ _
    | exact id
    | exact fun ⟨a, b⟩ => ⟨a, hPP _ _ _ _ _ _ _ b⟩
    | (repeat' split) <;> first
      | exact hPP _ _ _ _ _ _ _
      | exact id
      | exact fun ⟨a, b⟩ => ⟨a, hPP _ _ _ _ _ _ _ b⟩
      | exact fun ⟨a, b⟩ => ⟨fun k => hPP _ _ _ _ _ _ _ (a k), fun k => hPP _ _ _ _ _ _ _ (b k)⟩
      | exact fun ⟨a, b⟩ => ⟨fun q hq k => hPP _ _ _ _ _ _ _ (a q hq k), fun k => hPP _ _ _ _ _ _ _ (b k)⟩
      | exact fun ⟨a, b, c, d, e⟩ => ⟨a, b, c, d, hPP _ _ _ _ _ _ _ e⟩
      | exact fun ⟨a, b, c, d⟩ => ⟨a, b, c, hPP _ _ _ _ _ _ _ d⟩
      | exact fun ⟨a, b, c, d, e, f⟩ => ⟨a, b, c, d, e, hPP _ _ _ _ _ _ _ f⟩
      | exact hC _ _ _ _ _ _ (zback_mono hPP)
      | exact fun ⟨a, b, c⟩ => ⟨a, b, hC _ _ _ _ _ _ (zback_mono hPP) c⟩
      | exact fun ⟨a, b⟩ => ⟨a, hC _ _ _ _ _ _ (zback_mono hPP) b⟩
      | exact fun ⟨a, b, c, d⟩ => ⟨a, b, c, hC _ _ _ _ _ _ (zback_mono hPP) d⟩
      | exact fun ⟨a, b, c, d⟩ => ⟨a, b, c, hC _ _ _ _ _ _ (zbackx_mono hPP) d⟩
theorem zm_imin (nx : Nat) : zmono (zt_imin nx) := by
  intro C R P P' hC hPP ls st h n cu su ht
  revert ht
  unfold zt_imin
  first
    | exact hPP _ _ _ _ _ _ _
    | exact id
    | exact fun ⟨a, b⟩ => ⟨a, hPP _ _ _ _ _ _ _ b⟩
    | (repeat' split) <;> first
      | exact hPP _ _ _ _ _ _ _
      | exact id
      | exact fun ⟨a, b⟩ => ⟨a, hPP _ _ _ _ _ _ _ b⟩
      | exact fun ⟨a, b⟩ => ⟨fun k => hPP _ _ _ _ _ _ _ (a k), fun k => hPP _ _ _ _ _ _ _ (b k)⟩
      | exact fun ⟨a, b⟩ => ⟨fun q hq k => hPP _ _ _ _ _ _ _ (a q hq k), fun k => hPP _ _ _ _ _ _ _ (b k)⟩
      | exact fun ⟨a, b, c, d, e⟩ => ⟨a, b, c, d, hPP _ _ _ _ _ _ _ e⟩
      | exact fun ⟨a, b, c, d⟩ => ⟨a, b, c, hPP _ _ _ _ _ _ _ d⟩
      | exact fun ⟨a, b, c, d, e, f⟩ => ⟨a, b, c, d, e, hPP _ _ _ _ _ _ _ f⟩
      | exact hC _ _ _ _ _ _ (zback_mono hPP)
      | exact fun ⟨a, b, c⟩ => ⟨a, b, hC _ _ _ _ _ _ (zback_mono hPP) c⟩
      | exact fun ⟨a, b⟩ => ⟨a, hC _ _ _ _ _ _ (zback_mono hPP) b⟩
      | exact fun ⟨a, b, c, d⟩ => ⟨a, b, c, hC _ _ _ _ _ _ (zback_mono hPP) d⟩
      | exact fun ⟨a, b, c, d⟩ => ⟨a, b, c, hC _ _ _ _ _ _ (zbackx_mono hPP) d⟩
theorem zm_throw (x : Nat) (lim : Nat × Nat) : zmono (zt_throw x lim) := by
  intro C R P P' hC hPP ls st h n cu su ht
  revert ht
  unfold zt_throw
  first
    | exact hPP _ _ _ _ _ _ _
    | exact id
    | exact fun ⟨a, b⟩ => ⟨a, hPP _ _ _ _ _ _ _ b⟩
    | (repeat' split) <;> first
      | exact hPP _ _ _ _ _ _ _
      | exact id
      | exact fun ⟨a, b⟩ => ⟨a, hPP _ _ _ _ _ _ _ b⟩
      | exact fun ⟨a, b⟩ => ⟨fun k => hPP _ _ _ _ _ _ _ (a k), fun k => hPP _ _ _ _ _ _ _ (b k)⟩
      | exact fun ⟨a, b⟩ => ⟨fun q hq k => hPP _ _ _ _ _ _ _ (a q hq k), fun k => hPP _ _ _ _ _ _ _ (b k)⟩
      | exact fun ⟨a, b, c, d, e⟩ => ⟨a, b, c, d, hPP _ _ _ _ _ _ _ e⟩
      | exact fun ⟨a, b, c, d⟩ => ⟨a, b, c, hPP _ _ _ _ _ _ _ d⟩
      | exact fun ⟨a, b, c, d, e, f⟩ => ⟨a, b, c, d, e, hPP _ _ _ _ _ _ _ f⟩
      | exact hC _ _ _ _ _ _ (zback_mono hPP)
      | exact fun ⟨a, b, c⟩ => ⟨a, b, hC _ _ _ _ _ _ (zback_mono hPP) c⟩
      | exact fun ⟨a, b⟩ => ⟨a, hC _ _ _ _ _ _ (zback_mono hPP) b⟩
      | exact fun ⟨a, b, c, d⟩ => ⟨a, b, c, hC _ _ _ _ _ _ (zback_mono hPP) d⟩
      | exact fun ⟨a, b, c, d⟩ => ⟨a, b, c, hC _ _ _ _ _ _ (zbackx_mono hPP) d⟩
theorem zm_iret  : zmono (zt_iret ) := by
  intro C R P P' hC hPP ls st h n cu su ht
  revert ht
  unfold zt_iret
  first
    | exact hPP _ _ _ _ _ _ _
    | exact id
    | exact fun ⟨a, b⟩ => ⟨a, hPP _ _ _ _ _ _ _ b⟩
    | (repeat' split) <;> first
      | exact hPP _ _ _ _ _ _ _
      | exact id
      | exact fun ⟨a, b⟩ => ⟨a, hPP _ _ _ _ _ _ _ b⟩
      | exact fun ⟨a, b⟩ => ⟨fun k => hPP _ _ _ _ _ _ _ (a k), fun k => hPP _ _ _ _ _ _ _ (b k)⟩
      | exact fun ⟨a, b⟩ => ⟨fun q hq k => hPP _ _ _ _ _ _ _ (a q hq k), fun k => hPP _ _ _ _ _ _ _ (b k)⟩
      | exact fun ⟨a, b, c, d, e⟩ => ⟨a, b, c, d, hPP _ _ _ _ _ _ _ e⟩
      | exact fun ⟨a, b, c, d⟩ => ⟨a, b, c, hPP _ _ _ _ _ _ _ d⟩
      | exact fun ⟨a, b, c, d, e, f⟩ => ⟨a, b, c, d, e, hPP _ _ _ _ _ _ _ f⟩
      | exact hC _ _ _ _ _ _ (zback_mono hPP)
      | exact fun ⟨a, b, c⟩ => ⟨a, b, hC _ _ _ _ _ _ (zback_mono hPP) c⟩
      | exact fun ⟨a, b⟩ => ⟨a, hC _ _ _ _ _ _ (zback_mono hPP) b⟩
      | exact fun ⟨a, b, c, d⟩ => ⟨a, b, c, hC _ _ _ _ _ _ (zback_mono hPP) d⟩
      | exact fun ⟨a, b, c, d⟩ => ⟨a, b, c, hC _ _ _ _ _ _ (zbackx_mono hPP) d⟩
theorem zm_zret  : zmono (zt_zret ) := by
  intro C R P P' hC hPP ls st h n cu su ht
  revert ht
  unfold zt_zret
  first
    | exact hPP _ _ _ _ _ _ _
    | exact id
    | exact fun ⟨a, b⟩ => ⟨a, hPP _ _ _ _ _ _ _ b⟩
    | (repeat' split) <;> first
      | exact hPP _ _ _ _ _ _ _
      | exact id
      | exact fun ⟨a, b⟩ => ⟨a, hPP _ _ _ _ _ _ _ b⟩
      | exact fun ⟨a, b⟩ => ⟨fun k => hPP _ _ _ _ _ _ _ (a k), fun k => hPP _ _ _ _ _ _ _ (b k)⟩
      | exact fun ⟨a, b⟩ => ⟨fun q hq k => hPP _ _ _ _ _ _ _ (a q hq k), fun k => hPP _ _ _ _ _ _ _ (b k)⟩
      | exact fun ⟨a, b, c, d, e⟩ => ⟨a, b, c, d, hPP _ _ _ _ _ _ _ e⟩
      | exact fun ⟨a, b, c, d⟩ => ⟨a, b, c, hPP _ _ _ _ _ _ _ d⟩
      | exact fun ⟨a, b, c, d, e, f⟩ => ⟨a, b, c, d, e, hPP _ _ _ _ _ _ _ f⟩
      | exact hC _ _ _ _ _ _ (zback_mono hPP)
      | exact fun ⟨a, b, c⟩ => ⟨a, b, hC _ _ _ _ _ _ (zback_mono hPP) c⟩
      | exact fun ⟨a, b⟩ => ⟨a, hC _ _ _ _ _ _ (zback_mono hPP) b⟩
      | exact fun ⟨a, b, c, d⟩ => ⟨a, b, c, hC _ _ _ _ _ _ (zback_mono hPP) d⟩
      | exact fun ⟨a, b, c, d⟩ => ⟨a, b, c, hC _ _ _ _ _ _ (zbackx_mono hPP) d⟩
theorem zm_lret  : zmono (zt_lret ) := by
  intro C R P P' hC hPP ls st h n cu su ht
  revert ht
  unfold zt_lret
  first
    | exact hPP _ _ _ _ _ _ _
    | exact id
    | exact fun ⟨a, b⟩ => ⟨a, hPP _ _ _ _ _ _ _ b⟩
    | (repeat' split) <;> first
      | exact hPP _ _ _ _ _ _ _
      | exact id
      | exact fun ⟨a, b⟩ => ⟨a, hPP _ _ _ _ _ _ _ b⟩
      | exact fun ⟨a, b⟩ => ⟨fun k => hPP _ _ _ _ _ _ _ (a k), fun k => hPP _ _ _ _ _ _ _ (b k)⟩
      | exact fun ⟨a, b⟩ => ⟨fun q hq k => hPP _ _ _ _ _ _ _ (a q hq k), fun k => hPP _ _ _ _ _ _ _ (b k)⟩
      | exact fun ⟨a, b, c, d, e⟩ => ⟨a, b, c, d, hPP _ _ _ _ _ _ _ e⟩
      | exact fun ⟨a, b, c, d⟩ => ⟨a, b, c, hPP _ _ _ _ _ _ _ d⟩
      | exact fun ⟨a, b, c, d, e, f⟩ => ⟨a, b, c, d, e, hPP _ _ _ _ _ _ _ f⟩
      | exact hC _ _ _ _ _ _ (zback_mono hPP)
      | exact fun ⟨a, b, c⟩ => ⟨a, b, hC _ _ _ _ _ _ (zback_mono hPP) c⟩
      | exact fun ⟨a, b⟩ => ⟨a, hC _ _ _ _ _ _ (zback_mono hPP) b⟩
      | exact fun ⟨a, b, c, d⟩ => ⟨a, b, c, hC _ _ _ _ _ _ (zback_mono hPP) d⟩
      | exact fun ⟨a, b, c, d⟩ => ⟨a, b, c, hC _ _ _ _ _ _ (zbackx_mono hPP) d⟩
theorem zm_dret  : zmono (zt_dret ) := by
  intro C R P P' hC hPP ls st h n cu su ht
  revert ht
  unfold zt_dret
  first
    | exact hPP _ _ _ _ _ _ _
    | exact id
    | exact fun ⟨a, b⟩ => ⟨a, hPP _ _ _ _ _ _ _ b⟩
    | (repeat' split) <;> first
      | exact hPP _ _ _ _ _ _ _
      | exact id
      | exact fun ⟨a, b⟩ => ⟨a, hPP _ _ _ _ _ _ _ b⟩
      | exact fun ⟨a, b⟩ => ⟨fun k => hPP _ _ _ _ _ _ _ (a k), fun k => hPP _ _ _ _ _ _ _ (b k)⟩
      | exact fun ⟨a, b⟩ => ⟨fun q hq k => hPP _ _ _ _ _ _ _ (a q hq k), fun k => hPP _ _ _ _ _ _ _ (b k)⟩
      | exact fun ⟨a, b, c, d, e⟩ => ⟨a, b, c, d, hPP _ _ _ _ _ _ _ e⟩
      | exact fun ⟨a, b, c, d⟩ => ⟨a, b, c, hPP _ _ _ _ _ _ _ d⟩
      | exact fun ⟨a, b, c, d, e, f⟩ => ⟨a, b, c, d, e, hPP _ _ _ _ _ _ _ f⟩
      | exact hC _ _ _ _ _ _ (zback_mono hPP)
      | exact fun ⟨a, b, c⟩ => ⟨a, b, hC _ _ _ _ _ _ (zback_mono hPP) c⟩
      | exact fun ⟨a, b⟩ => ⟨a, hC _ _ _ _ _ _ (zback_mono hPP) b⟩
      | exact fun ⟨a, b, c, d⟩ => ⟨a, b, c, hC _ _ _ _ _ _ (zback_mono hPP) d⟩
      | exact fun ⟨a, b, c, d⟩ => ⟨a, b, c, hC _ _ _ _ _ _ (zbackx_mono hPP) d⟩
theorem zm_aret  : zmono (zt_aret ) := by
  intro C R P P' hC hPP ls st h n cu su ht
  revert ht
  unfold zt_aret
  first
    | exact hPP _ _ _ _ _ _ _
    | exact id
    | exact fun ⟨a, b⟩ => ⟨a, hPP _ _ _ _ _ _ _ b⟩
    | (repeat' split) <;> first
      | exact hPP _ _ _ _ _ _ _
      | exact id
      | exact fun ⟨a, b⟩ => ⟨a, hPP _ _ _ _ _ _ _ b⟩
      | exact fun ⟨a, b⟩ => ⟨fun k => hPP _ _ _ _ _ _ _ (a k), fun k => hPP _ _ _ _ _ _ _ (b k)⟩
      | exact fun ⟨a, b⟩ => ⟨fun q hq k => hPP _ _ _ _ _ _ _ (a q hq k), fun k => hPP _ _ _ _ _ _ _ (b k)⟩
      | exact fun ⟨a, b, c, d, e⟩ => ⟨a, b, c, d, hPP _ _ _ _ _ _ _ e⟩
      | exact fun ⟨a, b, c, d⟩ => ⟨a, b, c, hPP _ _ _ _ _ _ _ d⟩
      | exact fun ⟨a, b, c, d, e, f⟩ => ⟨a, b, c, d, e, hPP _ _ _ _ _ _ _ f⟩
      | exact hC _ _ _ _ _ _ (zback_mono hPP)
      | exact fun ⟨a, b, c⟩ => ⟨a, b, hC _ _ _ _ _ _ (zback_mono hPP) c⟩
      | exact fun ⟨a, b⟩ => ⟨a, hC _ _ _ _ _ _ (zback_mono hPP) b⟩
      | exact fun ⟨a, b, c, d⟩ => ⟨a, b, c, hC _ _ _ _ _ _ (zback_mono hPP) d⟩
      | exact fun ⟨a, b, c, d⟩ => ⟨a, b, c, hC _ _ _ _ _ _ (zbackx_mono hPP) d⟩
theorem zm_vret  : zmono (zt_vret ) := by
  intro C R P P' hC hPP ls st h n cu su ht
  revert ht
  unfold zt_vret
  first
    | exact hPP _ _ _ _ _ _ _
    | exact id
    | exact fun ⟨a, b⟩ => ⟨a, hPP _ _ _ _ _ _ _ b⟩
    | (repeat' split) <;> first
      | exact hPP _ _ _ _ _ _ _
      | exact id
      | exact fun ⟨a, b⟩ => ⟨a, hPP _ _ _ _ _ _ _ b⟩
      | exact fun ⟨a, b⟩ => ⟨fun k => hPP _ _ _ _ _ _ _ (a k), fun k => hPP _ _ _ _ _ _ _ (b k)⟩
      | exact fun ⟨a, b⟩ => ⟨fun q hq k => hPP _ _ _ _ _ _ _ (a q hq k), fun k => hPP _ _ _ _ _ _ _ (b k)⟩
      | exact fun ⟨a, b, c, d, e⟩ => ⟨a, b, c, d, hPP _ _ _ _ _ _ _ e⟩
      | exact fun ⟨a, b, c, d⟩ => ⟨a, b, c, hPP _ _ _ _ _ _ _ d⟩
      | exact fun ⟨a, b, c, d, e, f⟩ => ⟨a, b, c, d, e, hPP _ _ _ _ _ _ _ f⟩
      | exact hC _ _ _ _ _ _ (zback_mono hPP)
      | exact fun ⟨a, b, c⟩ => ⟨a, b, hC _ _ _ _ _ _ (zback_mono hPP) c⟩
      | exact fun ⟨a, b⟩ => ⟨a, hC _ _ _ _ _ _ (zback_mono hPP) b⟩
      | exact fun ⟨a, b, c, d⟩ => ⟨a, b, c, hC _ _ _ _ _ _ (zback_mono hPP) d⟩
      | exact fun ⟨a, b, c, d⟩ => ⟨a, b, c, hC _ _ _ _ _ _ (zbackx_mono hPP) d⟩
end
section
/-! many steps at once -/
theorem zrun_ok {T : List (List (Nat × zT))} {C : zK} {R : zQ} {P : zP} {cut : List Nat} (hT : ∀ L ∈ T, ∀ q ∈ L, zmono q.2) (hC : ∀ y as h n (Q Q' : zQ), (∀ x r h n, Q x r h n → Q' x r h n) → C y as h n Q → C y as h n Q') (hP : ∀ pc ls st h n cu su, zstep T C R P pc ls st h n cu su → P pc ls st h n cu su) :
    ∀ (k pc : Nat) (ls : zL) (st : List Value) (h : zH) (n cu su : Nat), zrun T C R P cut k pc ls st h n cu su → P pc ls st h n cu su := by
  intro k
  induction k with
  | zero => intro pc ls st h n cu su hr; exact hr
  | succ k ih =>
    intro pc ls st h n cu su hr
    unfold zrun at hr
    cases hc : cut.elem pc with
    | true => simp only [hc] at hr; exact hr
    | false =>
      simp only [hc] at hr
      refine hP pc ls st h n cu su ?_
      unfold zstep
      cases hf : zfet T pc with
      | none => simp only [hf] at hr
      | some t =>
        simp only [hf] at hr ⊢
        obtain ⟨L, hL, hm⟩ := zfet_mem hf
        exact hT L hL _ hm C R _ _ hC ih ls st h n cu su hr
theorem zgo {T : List (List (Nat × zT))} {C : zK} {R : zQ} {P : zP} (hT : ∀ L ∈ T, ∀ q ∈ L, zmono q.2) (hC : ∀ y as h n (Q Q' : zQ), (∀ x r h n, Q x r h n → Q' x r h n) → C y as h n Q → C y as h n Q') (hP : ∀ pc ls st h n cu su, zstep T C R P pc ls st h n cu su → P pc ls st h n cu su) (cut : List Nat) (k : Nat) {pc : Nat} {ls : zL} {st : List Value} {h : zH} {n cu su : Nat}
    (hr : zstep T C R (zrun T C R P cut k) pc ls st h n cu su) : P pc ls st h n cu su := by
  refine hP pc ls st h n cu su ?_
  unfold zstep at hr ⊢
  cases hf : zfet T pc with
  | none => simp only [hf] at hr
  | some t =>
    simp only [hf] at hr ⊢
    obtain ⟨L, hL, hm⟩ := zfet_mem hf
    exact hT L hL _ hm C R _ _ hC (zrun_ok hT hC hP k) ls st h n cu su hr
/-- what every proof of a method's contract begins with: the go rule over its own table -/
def zGo (T : List (List (Nat × zT))) (C : zK) (R : zQ) (P : zP) : Prop := ∀ (cut : List Nat) (k : Nat) (pc : Nat) (ls : zL) (st : List Value) (h : zH) (n cu su : Nat), zstep T C R (zrun T C R P cut k) pc ls st h n cu su → P pc ls st h n cu su
end
