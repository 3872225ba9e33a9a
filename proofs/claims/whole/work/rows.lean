section
/-- a private method of a class that the tables say can be made, by its rows of tables_1 -/
def lw_okq (q : MethodName × Nat) : Prop := (q.1.cls ≠ "java/lang/invoke/MethodHandle" ∧ q.1.cls ≠ "java/lang/invoke/VarHandle") ∧ Cond.instantiable q.1.cls q.2 ∈ tables_1 ∧ Cond.privateMethod q.1 ∈ tables_1 ∧ Cond.instanceMethod q.1 ∈ tables_1
theorem lw_p0 : lw_okq (⟨"EggsLast", "found", "(I)I"⟩, 11) := ⟨⟨by decide +kernel, by decide +kernel⟩, List.mem_of_getElem? (i := 17) (by decide +kernel), List.mem_of_getElem? (i := 322) (by decide +kernel), List.mem_of_getElem? (i := 323) (by decide +kernel)⟩
theorem lw_p1 : lw_okq (⟨"EggsLast", "fine", "(I)I"⟩, 11) := ⟨⟨by decide +kernel, by decide +kernel⟩, List.mem_of_getElem? (i := 17) (by decide +kernel), List.mem_of_getElem? (i := 331) (by decide +kernel), List.mem_of_getElem? (i := 332) (by decide +kernel)⟩
theorem lw_p2 : lw_okq (⟨"EggsLast$Tape", "readLaw", "(LEggsLast$Shop;)V"⟩, 4) := ⟨⟨by decide +kernel, by decide +kernel⟩, List.mem_of_getElem? (i := 45) (by decide +kernel), List.mem_of_getElem? (i := 397) (by decide +kernel), List.mem_of_getElem? (i := 398) (by decide +kernel)⟩
theorem lw_p3 : lw_okq (⟨"EggsLast$Tape", "readSign", "(C)V"⟩, 4) := ⟨⟨by decide +kernel, by decide +kernel⟩, List.mem_of_getElem? (i := 45) (by decide +kernel), List.mem_of_getElem? (i := 401) (by decide +kernel), List.mem_of_getElem? (i := 402) (by decide +kernel)⟩
theorem lw_p4 : lw_okq (⟨"EggsLast$Tape", "readNumber", "(II)I"⟩, 4) := ⟨⟨by decide +kernel, by decide +kernel⟩, List.mem_of_getElem? (i := 45) (by decide +kernel), List.mem_of_getElem? (i := 405) (by decide +kernel), List.mem_of_getElem? (i := 406) (by decide +kernel)⟩
theorem lw_p5 : lw_okq (⟨"EggsLast$Tape", "readThing", "(LEggsLast$Shop;)V"⟩, 4) := ⟨⟨by decide +kernel, by decide +kernel⟩, List.mem_of_getElem? (i := 45) (by decide +kernel), List.mem_of_getElem? (i := 413) (by decide +kernel), List.mem_of_getElem? (i := 414) (by decide +kernel)⟩
theorem lw_p6 : lw_okq (⟨"EggsLast$Tape", "readSort", "(I)I"⟩, 4) := ⟨⟨by decide +kernel, by decide +kernel⟩, List.mem_of_getElem? (i := 45) (by decide +kernel), List.mem_of_getElem? (i := 417) (by decide +kernel), List.mem_of_getElem? (i := 418) (by decide +kernel)⟩
theorem lw_p7 : lw_okq (⟨"EggsLast", "moveTop", "(II)I"⟩, 11) := ⟨⟨by decide +kernel, by decide +kernel⟩, List.mem_of_getElem? (i := 17) (by decide +kernel), List.mem_of_getElem? (i := 515) (by decide +kernel), List.mem_of_getElem? (i := 516) (by decide +kernel)⟩
theorem lw_p8 : lw_okq (⟨"EggsLast", "move", "(II)V"⟩, 11) := ⟨⟨by decide +kernel, by decide +kernel⟩, List.mem_of_getElem? (i := 17) (by decide +kernel), List.mem_of_getElem? (i := 520) (by decide +kernel), List.mem_of_getElem? (i := 521) (by decide +kernel)⟩
theorem lw_p9 : lw_okq (⟨"EggsLast$Ways", "begin", "(LEggsLast$Shop;)V"⟩, 17) := ⟨⟨by decide +kernel, by decide +kernel⟩, List.mem_of_getElem? (i := 168) (by decide +kernel), List.mem_of_getElem? (i := 620) (by decide +kernel), List.mem_of_getElem? (i := 621) (by decide +kernel)⟩
theorem lw_p10 : lw_okq (⟨"EggsLast$Ways", "queueFromTop", "(LEggsLast$Shop;I)V"⟩, 17) := ⟨⟨by decide +kernel, by decide +kernel⟩, List.mem_of_getElem? (i := 168) (by decide +kernel), List.mem_of_getElem? (i := 629) (by decide +kernel), List.mem_of_getElem? (i := 630) (by decide +kernel)⟩
theorem lw_p11 : lw_okq (⟨"EggsLast$Ways", "enqueue", "(I)V"⟩, 17) := ⟨⟨by decide +kernel, by decide +kernel⟩, List.mem_of_getElem? (i := 168) (by decide +kernel), List.mem_of_getElem? (i := 635) (by decide +kernel), List.mem_of_getElem? (i := 636) (by decide +kernel)⟩
theorem lw_p12 : lw_okq (⟨"EggsLast$Ways", "queueLaidBy", "(LEggsLast$Shop;)V"⟩, 17) := ⟨⟨by decide +kernel, by decide +kernel⟩, List.mem_of_getElem? (i := 168) (by decide +kernel), List.mem_of_getElem? (i := 640) (by decide +kernel), List.mem_of_getElem? (i := 641) (by decide +kernel)⟩
theorem lw_p13 : lw_okq (⟨"EggsLast$Ways", "packAllBut", "(I)V"⟩, 17) := ⟨⟨by decide +kernel, by decide +kernel⟩, List.mem_of_getElem? (i := 168) (by decide +kernel), List.mem_of_getElem? (i := 644) (by decide +kernel), List.mem_of_getElem? (i := 645) (by decide +kernel)⟩
theorem lw_p14 : lw_okq (⟨"EggsLast$Ways", "isBetter", "(II)Z"⟩, 17) := ⟨⟨by decide +kernel, by decide +kernel⟩, List.mem_of_getElem? (i := 168) (by decide +kernel), List.mem_of_getElem? (i := 659) (by decide +kernel), List.mem_of_getElem? (i := 660) (by decide +kernel)⟩
theorem lw_p15 : lw_okq (⟨"EggsLast$Ways", "keep", "(II)V"⟩, 17) := ⟨⟨by decide +kernel, by decide +kernel⟩, List.mem_of_getElem? (i := 168) (by decide +kernel), List.mem_of_getElem? (i := 663) (by decide +kernel), List.mem_of_getElem? (i := 664) (by decide +kernel)⟩
def lw_privs_1 : List (MethodName × Nat) := [(⟨"EggsLast", "found", "(I)I"⟩, 11), (⟨"EggsLast", "fine", "(I)I"⟩, 11), (⟨"EggsLast$Tape", "readLaw", "(LEggsLast$Shop;)V"⟩, 4), (⟨"EggsLast$Tape", "readSign", "(C)V"⟩, 4), (⟨"EggsLast$Tape", "readNumber", "(II)I"⟩, 4), (⟨"EggsLast$Tape", "readThing", "(LEggsLast$Shop;)V"⟩, 4), (⟨"EggsLast$Tape", "readSort", "(I)I"⟩, 4), (⟨"EggsLast", "moveTop", "(II)I"⟩, 11), (⟨"EggsLast", "move", "(II)V"⟩, 11), (⟨"EggsLast$Ways", "begin", "(LEggsLast$Shop;)V"⟩, 17), (⟨"EggsLast$Ways", "queueFromTop", "(LEggsLast$Shop;I)V"⟩, 17), (⟨"EggsLast$Ways", "enqueue", "(I)V"⟩, 17), (⟨"EggsLast$Ways", "queueLaidBy", "(LEggsLast$Shop;)V"⟩, 17), (⟨"EggsLast$Ways", "packAllBut", "(I)V"⟩, 17), (⟨"EggsLast$Ways", "isBetter", "(II)Z"⟩, 17), (⟨"EggsLast$Ways", "keep", "(II)V"⟩, 17)]
theorem lw_r1 : ∀ q ∈ lw_privs_1, lw_okq q := List.forall_mem_cons.mpr ⟨lw_p0, List.forall_mem_cons.mpr ⟨lw_p1, List.forall_mem_cons.mpr ⟨lw_p2, List.forall_mem_cons.mpr ⟨lw_p3, List.forall_mem_cons.mpr ⟨lw_p4, List.forall_mem_cons.mpr ⟨lw_p5, List.forall_mem_cons.mpr ⟨lw_p6, List.forall_mem_cons.mpr ⟨lw_p7, List.forall_mem_cons.mpr ⟨lw_p8, List.forall_mem_cons.mpr ⟨lw_p9, List.forall_mem_cons.mpr ⟨lw_p10, List.forall_mem_cons.mpr ⟨lw_p11, List.forall_mem_cons.mpr ⟨lw_p12, List.forall_mem_cons.mpr ⟨lw_p13, List.forall_mem_cons.mpr ⟨lw_p14, List.forall_mem_cons.mpr ⟨lw_p15, fun _ h => absurd h List.not_mem_nil⟩⟩⟩⟩⟩⟩⟩⟩⟩⟩⟩⟩⟩⟩⟩⟩
theorem lw_p16 : lw_okq (⟨"EggsLast$Ways", "bagsToTry", "()I"⟩, 17) := ⟨⟨by decide +kernel, by decide +kernel⟩, List.mem_of_getElem? (i := 168) (by decide +kernel), List.mem_of_getElem? (i := 667) (by decide +kernel), List.mem_of_getElem? (i := 668) (by decide +kernel)⟩
theorem lw_p17 : lw_okq (⟨"EggsLast$Ways", "lay", "(II)I"⟩, 17) := ⟨⟨by decide +kernel, by decide +kernel⟩, List.mem_of_getElem? (i := 168) (by decide +kernel), List.mem_of_getElem? (i := 671) (by decide +kernel), List.mem_of_getElem? (i := 672) (by decide +kernel)⟩
theorem lw_p18 : lw_okq (⟨"EggsLast$Ways", "lift", "(II)V"⟩, 17) := ⟨⟨by decide +kernel, by decide +kernel⟩, List.mem_of_getElem? (i := 168) (by decide +kernel), List.mem_of_getElem? (i := 676) (by decide +kernel), List.mem_of_getElem? (i := 677) (by decide +kernel)⟩
theorem lw_p19 : lw_okq (⟨"EggsLast$Ways", "tornNow", "()I"⟩, 17) := ⟨⟨by decide +kernel, by decide +kernel⟩, List.mem_of_getElem? (i := 168) (by decide +kernel), List.mem_of_getElem? (i := 695) (by decide +kernel), List.mem_of_getElem? (i := 696) (by decide +kernel)⟩
theorem lw_p20 : lw_okq (⟨"EggsLast$Ways", "tryWithout", "(II)V"⟩, 17) := ⟨⟨by decide +kernel, by decide +kernel⟩, List.mem_of_getElem? (i := 168) (by decide +kernel), List.mem_of_getElem? (i := 710) (by decide +kernel), List.mem_of_getElem? (i := 711) (by decide +kernel)⟩
theorem lw_p21 : lw_okq (⟨"EggsLast$BeltOrder", "weigh", "(I)V"⟩, 4) := ⟨⟨by decide +kernel, by decide +kernel⟩, List.mem_of_getElem? (i := 230) (by decide +kernel), List.mem_of_getElem? (i := 724) (by decide +kernel), List.mem_of_getElem? (i := 725) (by decide +kernel)⟩
theorem lw_p22 : lw_okq (⟨"EggsLast$BeltOrder", "fewestFrom", "(II)I"⟩, 4) := ⟨⟨by decide +kernel, by decide +kernel⟩, List.mem_of_getElem? (i := 230) (by decide +kernel), List.mem_of_getElem? (i := 729) (by decide +kernel), List.mem_of_getElem? (i := 730) (by decide +kernel)⟩
theorem lw_p23 : lw_okq (⟨"EggsLast$BeltOrder", "firstOf", "(I)I"⟩, 4) := ⟨⟨by decide +kernel, by decide +kernel⟩, List.mem_of_getElem? (i := 230) (by decide +kernel), List.mem_of_getElem? (i := 746) (by decide +kernel), List.mem_of_getElem? (i := 747) (by decide +kernel)⟩
theorem lw_p24 : lw_okq (⟨"EggsLast$Shop", "leastSpareAt", "(I)I"⟩, 12) := ⟨⟨by decide +kernel, by decide +kernel⟩, List.mem_of_getElem? (i := 66) (by decide +kernel), List.mem_of_getElem? (i := 759) (by decide +kernel), List.mem_of_getElem? (i := 760) (by decide +kernel)⟩
theorem lw_p25 : lw_okq (⟨"EggsLast$Shop", "isColdPair", "(II)Z"⟩, 12) := ⟨⟨by decide +kernel, by decide +kernel⟩, List.mem_of_getElem? (i := 66) (by decide +kernel), List.mem_of_getElem? (i := 830) (by decide +kernel), List.mem_of_getElem? (i := 831) (by decide +kernel)⟩
theorem lw_p26 : lw_okq (⟨"EggsLast$Asks", "leave", "(I)V"⟩, 7) := ⟨⟨by decide +kernel, by decide +kernel⟩, List.mem_of_getElem? (i := 249) (by decide +kernel), List.mem_of_getElem? (i := 925) (by decide +kernel), List.mem_of_getElem? (i := 926) (by decide +kernel)⟩
theorem lw_p27 : lw_okq (⟨"EggsLastModel", "finding", "(I)I"⟩, 30) := ⟨⟨by decide +kernel, by decide +kernel⟩, List.mem_of_getElem? (i := 950) (by decide +kernel), List.mem_of_getElem? (i := 1061) (by decide +kernel), List.mem_of_getElem? (i := 1062) (by decide +kernel)⟩
theorem lw_p28 : lw_okq (⟨"EggsLastModel", "begin", "()V"⟩, 30) := ⟨⟨by decide +kernel, by decide +kernel⟩, List.mem_of_getElem? (i := 950) (by decide +kernel), List.mem_of_getElem? (i := 1092) (by decide +kernel), List.mem_of_getElem? (i := 1093) (by decide +kernel)⟩
theorem lw_p29 : lw_okq (⟨"EggsLastModel", "nextToken", "()V"⟩, 30) := ⟨⟨by decide +kernel, by decide +kernel⟩, List.mem_of_getElem? (i := 950) (by decide +kernel), List.mem_of_getElem? (i := 1096) (by decide +kernel), List.mem_of_getElem? (i := 1097) (by decide +kernel)⟩
theorem lw_p30 : lw_okq (⟨"EggsLastModel", "isLetter", "(I)Z"⟩, 30) := ⟨⟨by decide +kernel, by decide +kernel⟩, List.mem_of_getElem? (i := 950) (by decide +kernel), List.mem_of_getElem? (i := 1105) (by decide +kernel), List.mem_of_getElem? (i := 1106) (by decide +kernel)⟩
theorem lw_p31 : lw_okq (⟨"EggsLastModel", "must", "(Z)V"⟩, 30) := ⟨⟨by decide +kernel, by decide +kernel⟩, List.mem_of_getElem? (i := 950) (by decide +kernel), List.mem_of_getElem? (i := 1109) (by decide +kernel), List.mem_of_getElem? (i := 1110) (by decide +kernel)⟩
def lw_privs_2 : List (MethodName × Nat) := [(⟨"EggsLast$Ways", "bagsToTry", "()I"⟩, 17), (⟨"EggsLast$Ways", "lay", "(II)I"⟩, 17), (⟨"EggsLast$Ways", "lift", "(II)V"⟩, 17), (⟨"EggsLast$Ways", "tornNow", "()I"⟩, 17), (⟨"EggsLast$Ways", "tryWithout", "(II)V"⟩, 17), (⟨"EggsLast$BeltOrder", "weigh", "(I)V"⟩, 4), (⟨"EggsLast$BeltOrder", "fewestFrom", "(II)I"⟩, 4), (⟨"EggsLast$BeltOrder", "firstOf", "(I)I"⟩, 4), (⟨"EggsLast$Shop", "leastSpareAt", "(I)I"⟩, 12), (⟨"EggsLast$Shop", "isColdPair", "(II)Z"⟩, 12), (⟨"EggsLast$Asks", "leave", "(I)V"⟩, 7), (⟨"EggsLastModel", "finding", "(I)I"⟩, 30), (⟨"EggsLastModel", "begin", "()V"⟩, 30), (⟨"EggsLastModel", "nextToken", "()V"⟩, 30), (⟨"EggsLastModel", "isLetter", "(I)Z"⟩, 30), (⟨"EggsLastModel", "must", "(Z)V"⟩, 30)]
theorem lw_r2 : ∀ q ∈ lw_privs_2, lw_okq q := List.forall_mem_cons.mpr ⟨lw_p16, List.forall_mem_cons.mpr ⟨lw_p17, List.forall_mem_cons.mpr ⟨lw_p18, List.forall_mem_cons.mpr ⟨lw_p19, List.forall_mem_cons.mpr ⟨lw_p20, List.forall_mem_cons.mpr ⟨lw_p21, List.forall_mem_cons.mpr ⟨lw_p22, List.forall_mem_cons.mpr ⟨lw_p23, List.forall_mem_cons.mpr ⟨lw_p24, List.forall_mem_cons.mpr ⟨lw_p25, List.forall_mem_cons.mpr ⟨lw_p26, List.forall_mem_cons.mpr ⟨lw_p27, List.forall_mem_cons.mpr ⟨lw_p28, List.forall_mem_cons.mpr ⟨lw_p29, List.forall_mem_cons.mpr ⟨lw_p30, List.forall_mem_cons.mpr ⟨lw_p31, fun _ h => absurd h List.not_mem_nil⟩⟩⟩⟩⟩⟩⟩⟩⟩⟩⟩⟩⟩⟩⟩⟩
theorem lw_p32 : lw_okq (⟨"EggsLastModel", "bad", "(I)V"⟩, 30) := ⟨⟨by decide +kernel, by decide +kernel⟩, List.mem_of_getElem? (i := 950) (by decide +kernel), List.mem_of_getElem? (i := 1113) (by decide +kernel), List.mem_of_getElem? (i := 1114) (by decide +kernel)⟩
theorem lw_p33 : lw_okq (⟨"EggsLastModel", "number", "(II)I"⟩, 30) := ⟨⟨by decide +kernel, by decide +kernel⟩, List.mem_of_getElem? (i := 950) (by decide +kernel), List.mem_of_getElem? (i := 1117) (by decide +kernel), List.mem_of_getElem? (i := 1118) (by decide +kernel)⟩
theorem lw_p34 : lw_okq (⟨"EggsLastModel", "mustSign", "(I)V"⟩, 30) := ⟨⟨by decide +kernel, by decide +kernel⟩, List.mem_of_getElem? (i := 950) (by decide +kernel), List.mem_of_getElem? (i := 1121) (by decide +kernel), List.mem_of_getElem? (i := 1122) (by decide +kernel)⟩
theorem lw_p35 : lw_okq (⟨"EggsLastModel", "isSort", "()Z"⟩, 30) := ⟨⟨by decide +kernel, by decide +kernel⟩, List.mem_of_getElem? (i := 950) (by decide +kernel), List.mem_of_getElem? (i := 1125) (by decide +kernel), List.mem_of_getElem? (i := 1126) (by decide +kernel)⟩
theorem lw_p36 : lw_okq (⟨"EggsLastModel", "readThing", "()V"⟩, 30) := ⟨⟨by decide +kernel, by decide +kernel⟩, List.mem_of_getElem? (i := 950) (by decide +kernel), List.mem_of_getElem? (i := 1132) (by decide +kernel), List.mem_of_getElem? (i := 1133) (by decide +kernel)⟩
theorem lw_p37 : lw_okq (⟨"EggsLastModel", "failed", "()Z"⟩, 30) := ⟨⟨by decide +kernel, by decide +kernel⟩, List.mem_of_getElem? (i := 950) (by decide +kernel), List.mem_of_getElem? (i := 1136) (by decide +kernel), List.mem_of_getElem? (i := 1137) (by decide +kernel)⟩
theorem lw_p38 : lw_okq (⟨"EggsLastModel", "isThere", "()Z"⟩, 30) := ⟨⟨by decide +kernel, by decide +kernel⟩, List.mem_of_getElem? (i := 950) (by decide +kernel), List.mem_of_getElem? (i := 1145) (by decide +kernel), List.mem_of_getElem? (i := 1146) (by decide +kernel)⟩
theorem lw_p39 : lw_okq (⟨"EggsLastModel", "keep", "()V"⟩, 30) := ⟨⟨by decide +kernel, by decide +kernel⟩, List.mem_of_getElem? (i := 950) (by decide +kernel), List.mem_of_getElem? (i := 1151) (by decide +kernel), List.mem_of_getElem? (i := 1152) (by decide +kernel)⟩
theorem lw_p40 : lw_okq (⟨"EggsLastModel", "isBag", "(I)Z"⟩, 30) := ⟨⟨by decide +kernel, by decide +kernel⟩, List.mem_of_getElem? (i := 950) (by decide +kernel), List.mem_of_getElem? (i := 1177) (by decide +kernel), List.mem_of_getElem? (i := 1178) (by decide +kernel)⟩
theorem lw_p41 : lw_okq (⟨"EggsLastModel", "isThing", "(I)Z"⟩, 30) := ⟨⟨by decide +kernel, by decide +kernel⟩, List.mem_of_getElem? (i := 950) (by decide +kernel), List.mem_of_getElem? (i := 1210) (by decide +kernel), List.mem_of_getElem? (i := 1211) (by decide +kernel)⟩
theorem lw_p42 : lw_okq (⟨"EggsLastModel", "seekLeast", "(I)V"⟩, 30) := ⟨⟨by decide +kernel, by decide +kernel⟩, List.mem_of_getElem? (i := 950) (by decide +kernel), List.mem_of_getElem? (i := 1256) (by decide +kernel), List.mem_of_getElem? (i := 1257) (by decide +kernel)⟩
theorem lw_p43 : lw_okq (⟨"EggsLastModel", "lineUp", "(I)V"⟩, 30) := ⟨⟨by decide +kernel, by decide +kernel⟩, List.mem_of_getElem? (i := 950) (by decide +kernel), List.mem_of_getElem? (i := 1260) (by decide +kernel), List.mem_of_getElem? (i := 1261) (by decide +kernel)⟩
theorem lw_p44 : lw_okq (⟨"EggsLastModel", "waysOf", "()I"⟩, 30) := ⟨⟨by decide +kernel, by decide +kernel⟩, List.mem_of_getElem? (i := 950) (by decide +kernel), List.mem_of_getElem? (i := 1264) (by decide +kernel), List.mem_of_getElem? (i := 1265) (by decide +kernel)⟩
theorem lw_p45 : lw_okq (⟨"EggsLastModel", "layWay", "(I)V"⟩, 30) := ⟨⟨by decide +kernel, by decide +kernel⟩, List.mem_of_getElem? (i := 950) (by decide +kernel), List.mem_of_getElem? (i := 1268) (by decide +kernel), List.mem_of_getElem? (i := 1269) (by decide +kernel)⟩
theorem lw_p46 : lw_okq (⟨"EggsLastModel", "layThen", "()V"⟩, 30) := ⟨⟨by decide +kernel, by decide +kernel⟩, List.mem_of_getElem? (i := 950) (by decide +kernel), List.mem_of_getElem? (i := 1272) (by decide +kernel), List.mem_of_getElem? (i := 1273) (by decide +kernel)⟩
theorem lw_p47 : lw_okq (⟨"EggsLastModel", "bagBy", "(II)I"⟩, 30) := ⟨⟨by decide +kernel, by decide +kernel⟩, List.mem_of_getElem? (i := 950) (by decide +kernel), List.mem_of_getElem? (i := 1276) (by decide +kernel), List.mem_of_getElem? (i := 1277) (by decide +kernel)⟩
def lw_privs_3 : List (MethodName × Nat) := [(⟨"EggsLastModel", "bad", "(I)V"⟩, 30), (⟨"EggsLastModel", "number", "(II)I"⟩, 30), (⟨"EggsLastModel", "mustSign", "(I)V"⟩, 30), (⟨"EggsLastModel", "isSort", "()Z"⟩, 30), (⟨"EggsLastModel", "readThing", "()V"⟩, 30), (⟨"EggsLastModel", "failed", "()Z"⟩, 30), (⟨"EggsLastModel", "isThere", "()Z"⟩, 30), (⟨"EggsLastModel", "keep", "()V"⟩, 30), (⟨"EggsLastModel", "isBag", "(I)Z"⟩, 30), (⟨"EggsLastModel", "isThing", "(I)Z"⟩, 30), (⟨"EggsLastModel", "seekLeast", "(I)V"⟩, 30), (⟨"EggsLastModel", "lineUp", "(I)V"⟩, 30), (⟨"EggsLastModel", "waysOf", "()I"⟩, 30), (⟨"EggsLastModel", "layWay", "(I)V"⟩, 30), (⟨"EggsLastModel", "layThen", "()V"⟩, 30), (⟨"EggsLastModel", "bagBy", "(II)I"⟩, 30)]
theorem lw_r3 : ∀ q ∈ lw_privs_3, lw_okq q := List.forall_mem_cons.mpr ⟨lw_p32, List.forall_mem_cons.mpr ⟨lw_p33, List.forall_mem_cons.mpr ⟨lw_p34, List.forall_mem_cons.mpr ⟨lw_p35, List.forall_mem_cons.mpr ⟨lw_p36, List.forall_mem_cons.mpr ⟨lw_p37, List.forall_mem_cons.mpr ⟨lw_p38, List.forall_mem_cons.mpr ⟨lw_p39, List.forall_mem_cons.mpr ⟨lw_p40, List.forall_mem_cons.mpr ⟨lw_p41, List.forall_mem_cons.mpr ⟨lw_p42, List.forall_mem_cons.mpr ⟨lw_p43, List.forall_mem_cons.mpr ⟨lw_p44, List.forall_mem_cons.mpr ⟨lw_p45, List.forall_mem_cons.mpr ⟨lw_p46, List.forall_mem_cons.mpr ⟨lw_p47, fun _ h => absurd h List.not_mem_nil⟩⟩⟩⟩⟩⟩⟩⟩⟩⟩⟩⟩⟩⟩⟩⟩
theorem lw_p48 : lw_okq (⟨"EggsLastModel", "nextRow", "(I)Z"⟩, 30) := ⟨⟨by decide +kernel, by decide +kernel⟩, List.mem_of_getElem? (i := 950) (by decide +kernel), List.mem_of_getElem? (i := 1295) (by decide +kernel), List.mem_of_getElem? (i := 1296) (by decide +kernel)⟩
theorem lw_p49 : lw_okq (⟨"EggsLastModel", "rowFound", "(III)I"⟩, 30) := ⟨⟨by decide +kernel, by decide +kernel⟩, List.mem_of_getElem? (i := 950) (by decide +kernel), List.mem_of_getElem? (i := 1319) (by decide +kernel), List.mem_of_getElem? (i := 1320) (by decide +kernel)⟩
theorem lw_p50 : lw_okq (⟨"EggsLastModel", "weighSo", "(I)Z"⟩, 30) := ⟨⟨by decide +kernel, by decide +kernel⟩, List.mem_of_getElem? (i := 950) (by decide +kernel), List.mem_of_getElem? (i := 1323) (by decide +kernel), List.mem_of_getElem? (i := 1324) (by decide +kernel)⟩
theorem lw_p51 : lw_okq (⟨"EggsLastModel", "brokenSo", "(I)Z"⟩, 30) := ⟨⟨by decide +kernel, by decide +kernel⟩, List.mem_of_getElem? (i := 950) (by decide +kernel), List.mem_of_getElem? (i := 1335) (by decide +kernel), List.mem_of_getElem? (i := 1336) (by decide +kernel)⟩
theorem lw_p52 : lw_okq (⟨"EggsLastModel", "sizeOf", "(I)I"⟩, 30) := ⟨⟨by decide +kernel, by decide +kernel⟩, List.mem_of_getElem? (i := 950) (by decide +kernel), List.mem_of_getElem? (i := 1385) (by decide +kernel), List.mem_of_getElem? (i := 1386) (by decide +kernel)⟩
theorem lw_p53 : lw_okq (⟨"EggsLastModel", "softSize", "(I)I"⟩, 30) := ⟨⟨by decide +kernel, by decide +kernel⟩, List.mem_of_getElem? (i := 950) (by decide +kernel), List.mem_of_getElem? (i := 1389) (by decide +kernel), List.mem_of_getElem? (i := 1390) (by decide +kernel)⟩
theorem lw_p54 : lw_okq (⟨"EggsLastModel", "began", "(I)V"⟩, 30) := ⟨⟨by decide +kernel, by decide +kernel⟩, List.mem_of_getElem? (i := 950) (by decide +kernel), List.mem_of_getElem? (i := 1393) (by decide +kernel), List.mem_of_getElem? (i := 1394) (by decide +kernel)⟩
theorem lw_p55 : lw_okq (⟨"EggsLastModel", "plainSize", "(I)I"⟩, 30) := ⟨⟨by decide +kernel, by decide +kernel⟩, List.mem_of_getElem? (i := 950) (by decide +kernel), List.mem_of_getElem? (i := 1397) (by decide +kernel), List.mem_of_getElem? (i := 1398) (by decide +kernel)⟩
theorem lw_p56 : lw_okq (⟨"EggsLastModel", "markOf", "(I)I"⟩, 30) := ⟨⟨by decide +kernel, by decide +kernel⟩, List.mem_of_getElem? (i := 950) (by decide +kernel), List.mem_of_getElem? (i := 1401) (by decide +kernel), List.mem_of_getElem? (i := 1402) (by decide +kernel)⟩
def lw_privs_4 : List (MethodName × Nat) := [(⟨"EggsLastModel", "nextRow", "(I)Z"⟩, 30), (⟨"EggsLastModel", "rowFound", "(III)I"⟩, 30), (⟨"EggsLastModel", "weighSo", "(I)Z"⟩, 30), (⟨"EggsLastModel", "brokenSo", "(I)Z"⟩, 30), (⟨"EggsLastModel", "sizeOf", "(I)I"⟩, 30), (⟨"EggsLastModel", "softSize", "(I)I"⟩, 30), (⟨"EggsLastModel", "began", "(I)V"⟩, 30), (⟨"EggsLastModel", "plainSize", "(I)I"⟩, 30), (⟨"EggsLastModel", "markOf", "(I)I"⟩, 30)]
theorem lw_r4 : ∀ q ∈ lw_privs_4, lw_okq q := List.forall_mem_cons.mpr ⟨lw_p48, List.forall_mem_cons.mpr ⟨lw_p49, List.forall_mem_cons.mpr ⟨lw_p50, List.forall_mem_cons.mpr ⟨lw_p51, List.forall_mem_cons.mpr ⟨lw_p52, List.forall_mem_cons.mpr ⟨lw_p53, List.forall_mem_cons.mpr ⟨lw_p54, List.forall_mem_cons.mpr ⟨lw_p55, List.forall_mem_cons.mpr ⟨lw_p56, fun _ h => absurd h List.not_mem_nil⟩⟩⟩⟩⟩⟩⟩⟩⟩
def lw_privs : List (MethodName × Nat) := lw_privs_1 ++ (lw_privs_2 ++ (lw_privs_3 ++ (lw_privs_4)))
def lw_tbl : List Cond := k2_sels lw_privs ++ tables_1
theorem lw_privs_ok : ∀ q ∈ lw_privs, lw_okq q := by
  show ∀ q ∈ lw_privs_1 ++ (lw_privs_2 ++ (lw_privs_3 ++ (lw_privs_4))), lw_okq q
  exact List.forall_mem_append.mpr ⟨lw_r1, List.forall_mem_append.mpr ⟨lw_r2, List.forall_mem_append.mpr ⟨lw_r3, lw_r4⟩⟩⟩
end
section
/-! THE PURE MACHINE: the instructions that this claim uses, over a pure heap; what a run of it answers, the JVM answers (part 06). -/
/-- locals; cells by their places; an answer -/
abbrev pm_L : Type := List (Option Value)
abbrev pm_H : Type := List va_E
abbrev pm_R : Type := Option Value × pm_H
/-- an instruction: itself, its length, a constant, three numbers, a switch's arms -/
abbrev pm_J : Type := Instr × Nat × Int32 × Nat × Nat × Nat × List (Int32 × Nat)
/-- a method: its class, what it returns (0 nothing, 1 int, 2 boolean, 3 long), which locals hold longs, its code -/
abbrev pm_M : Type := Nat × Nat × List Nat × List (Nat × pm_J)
def pm_find {α : Type} : List (Nat × α) → Nat → Option α
  | [], _ => none
  | (a, x) :: t, n => match Nat.beq a n with
    | true => some x
    | false => pm_find t n
def pm_nth {α : Type} : List α → Nat → Option α
  | [], _ => none
  | a :: _, 0 => some a
  | _ :: t, n + 1 => pm_nth t n
def pm_set {α : Type} : List α → Nat → α → List α
  | [], _, _ => []
  | _ :: t, 0, v => v :: t
  | a :: t, n + 1, v => a :: pm_set t n v
def pm_isL : List Nat → Nat → Bool
  | [], _ => false
  | a :: t, n => match Nat.beq a n with
    | true => true
    | false => pm_isL t n
/-- a local is written: a long in the place before it is gone -/
def pm_sv (lng : List Nat) (ls : pm_L) (k : Nat) (v : Value) : pm_L := match k with
  | 0 => pm_set ls 0 (some v)
  | j + 1 => match pm_isL lng j with
    | true => pm_set (pm_set ls j none) (j + 1) (some v)
    | false => pm_set ls (j + 1) (some v)
def pm_ii (f : Int32 → Int32 → Int32) (st : List Value) (k : List Value → Option pm_R) : Option pm_R := match st with
  | .int y :: .int x :: r => k (.int (f x y) :: r)
  | _ => none
def pm_iz (f : Int32 → Int32 → Int32) (st : List Value) (k : List Value → Option pm_R) : Option pm_R := match st with
  | .int y :: .int x :: r => if y = 0 then none else k (.int (f x y) :: r)
  | _ => none
def pm_i1 (f : Int32 → Value) (st : List Value) (k : List Value → Option pm_R) : Option pm_R := match st with
  | .int x :: r => k (f x :: r)
  | _ => none
def pm_l1 (f : Int64 → Value) (st : List Value) (k : List Value → Option pm_R) : Option pm_R := match st with
  | .long x :: r => k (f x :: r)
  | _ => none
def pm_ll (f : Int64 → Int64 → Value) (st : List Value) (k : List Value → Option pm_R) : Option pm_R := match st with
  | .long y :: .long x :: r => k (f x y :: r)
  | _ => none
def pm_lz (f : Int64 → Int64 → Value) (st : List Value) (k : List Value → Option pm_R) : Option pm_R := match st with
  | .long y :: .long x :: r => if y = 0 then none else k (f x y :: r)
  | _ => none
def pm_ldi (ls : pm_L) (i : Nat) (st : List Value) (k : List Value → Option pm_R) : Option pm_R := match pm_nth ls i with
  | some (some (.int x)) => k (.int x :: st)
  | _ => none
def pm_ldl (ls : pm_L) (i : Nat) (st : List Value) (k : List Value → Option pm_R) : Option pm_R := match pm_nth ls i with
  | some (some (.long x)) => k (.long x :: st)
  | _ => none
def pm_lda (ls : pm_L) (i : Nat) (st : List Value) (k : List Value → Option pm_R) : Option pm_R := match pm_nth ls i with
  | some (some (.ref x)) => k (.ref x :: st)
  | some (some (.retAddr x)) => k (.retAddr x :: st)
  | _ => none
def pm_sti (lng : List Nat) (ls : pm_L) (i : Nat) (st : List Value) (k : pm_L → List Value → Option pm_R) : Option pm_R := match st with
  | .int x :: r => k (pm_sv lng ls i (.int x)) r
  | _ => none
def pm_sta (lng : List Nat) (ls : pm_L) (i : Nat) (st : List Value) (k : pm_L → List Value → Option pm_R) : Option pm_R := match st with
  | .ref x :: r => k (pm_sv lng ls i (.ref x)) r
  | .retAddr x :: r => k (pm_sv lng ls i (.retAddr x)) r
  | _ => none
def pm_stl (lng : List Nat) (ls : pm_L) (i : Nat) (st : List Value) (k : pm_L → List Value → Option pm_R) : Option pm_R := match st with
  | .long x :: r => match pm_isL lng i with
    | true => k (pm_set (pm_sv lng ls i (.long x)) (i + 1) none) r
    | false => none
  | _ => none
def pm_inc (lng : List Nat) (ls : pm_L) (i : Nat) (c : Int32) (k : pm_L → Option pm_R) : Option pm_R := match pm_nth ls i with
  | some (some (.int x)) => k (pm_sv lng ls i (.int (x + c)))
  | _ => none
def pm_icmp (cnd : Jvm.ClassFile.Cond) (st : List Value) (kt kf : List Value → Option pm_R) : Option pm_R := match st with
  | .int y :: .int x :: r => match cnd with
    | .eq => if x = y then kt r else kf r
    | .ne => if ¬ x = y then kt r else kf r
    | .lt => if x < y then kt r else kf r
    | .ge => if y ≤ x then kt r else kf r
    | .gt => if y < x then kt r else kf r
    | .le => if x ≤ y then kt r else kf r
  | _ => none
def pm_ifc (cnd : Jvm.ClassFile.Cond) (st : List Value) (kt kf : List Value → Option pm_R) : Option pm_R := match st with
  | .int x :: r => match cnd with
    | .eq => if x = 0 then kt r else kf r
    | .ne => if ¬ x = 0 then kt r else kf r
    | .lt => if x < 0 then kt r else kf r
    | .ge => if 0 ≤ x then kt r else kf r
    | .gt => if 0 < x then kt r else kf r
    | .le => if x ≤ 0 then kt r else kf r
  | _ => none
def pm_arms (x : Int32) (f : Nat → Option pm_R) (d : Option pm_R) : List (Int32 × Nat) → Option pm_R
  | [] => d
  | (v, t) :: l => if x = v then f t else pm_arms x f d l
def pm_sw (sw : List (Int32 × Nat)) (dft : Nat) (st : List Value) (k : Nat → List Value → Option pm_R) : Option pm_R := match st with
  | .int x :: r => pm_arms x (fun t => k t r) (k dft r) sw
  | _ => none
def pm_dup (st : List Value) (k : List Value → Option pm_R) : Option pm_R := match st with
  | v :: r => match Nat.beq v.category 1 with
    | true => k (v :: v :: r)
    | false => none
  | _ => none
def pm_dup2 (st : List Value) (k : List Value → Option pm_R) : Option pm_R := match st with
  | v :: w :: r => match Nat.beq v.category 1, Nat.beq w.category 1 with
    | true, true => k (v :: w :: v :: w :: r)
    | _, _ => none
  | _ => none
-- the heap's reads and writes
def pm_gI (σ : pm_H) (o ci k : Nat) : Option Int32 := match σ[o]? with
  | some (.inr (c, fs)) => if c = ci then match fs[k]? with
    | some (.int x) => some x
    | _ => none else none
  | _ => none
def pm_gR (σ : pm_H) (o ci k : Nat) : Option Nat := match σ[o]? with
  | some (.inr (c, fs)) => if c = ci then match fs[k]? with
    | some (.ref x) => some x
    | _ => none else none
  | _ => none
def pm_pf (σ : pm_H) (o ci k : Nat) (v : Value) : Option pm_H := match σ[o]? with
  | some (.inr (c, fs)) => if c = ci ∧ k < fs.length then some (σ.set o (.inr (c, fs.set k v))) else none
  | _ => none
/-- the ints of a row (kind t: 0 ints, 1 booleans) -/
def pm_rd (t : Nat) (σ : pm_H) (q : Nat) (i : Int32) : Option Int32 := match σ[q]? with
  | some (.inl (c, n, .inl f)) => if c = t ∧ ¬ (i < 0 ∨ n ≤ i.toNatClampNeg) then some (f i.toNatClampNeg) else none
  | _ => none
def pm_wr (t : Nat) (σ : pm_H) (q : Nat) (i x : Int32) : Option pm_H := match σ[q]? with
  | some (.inl (c, n, .inl f)) => if c = t ∧ ¬ (i < 0 ∨ n ≤ i.toNatClampNeg) then some (σ.set q (.inl (c, n, .inl (upd f i.toNatClampNeg x)))) else none
  | _ => none
/-- a row of cells (kind 2: of SHOPS, 3: of rows of ints) -/
def pm_rdA (σ : pm_H) (q : Nat) (i : Int32) : Option Nat := match σ[q]? with
  | some (.inl (c, n, .inr (.inr (.inr (.inr f))))) => if (c = 2 ∨ c = 3) ∧ ¬ (i < 0 ∨ n ≤ i.toNatClampNeg) then f i.toNatClampNeg else none
  | _ => none
def pm_wrA (σ : pm_H) (q : Nat) (i : Int32) (v : Nat) : Option pm_H := match σ[q]?, σ[v]? with
  | some (.inl (c, n, .inr (.inr (.inr (.inr f))))), some (.inr (k, _)) => if c = 2 ∧ k = 4 ∧ ¬ (i < 0 ∨ n ≤ i.toNatClampNeg) then some (σ.set q (.inl (c, n, .inr (.inr (.inr (.inr (va_up f i.toNatClampNeg (some v)))))))) else none
  | _, _ => none
def pm_ln (σ : pm_H) (q : Nat) : Option Int32 := match σ[q]? with
  | some (.inl (c, n, _)) => if c < 4 then some (Int32.ofNat n) else none
  | _ => none
def pm_ro (old : Nat → Option (Nat × (Nat → Int32))) (j : Nat) (i : Int32) : Option Int32 := match old j with
  | some (n, f) => if ¬ (i < 0 ∨ n ≤ i.toNatClampNeg) then some (f i.toNatClampNeg) else none
  | none => none
def pm_lo (old : Nat → Option (Nat × (Nat → Int32))) (j : Nat) : Option Int32 := match old j with
  | some (n, _) => some (Int32.ofNat n)
  | none => none
def pm_cp (σ : pm_H) (p : Nat) (i : Int32) (q : Nat) (j n : Int32) : Option pm_H := match σ[p]?, σ[q]? with
  | some (.inl (c, a, .inl f)), some (.inl (d, b, .inl g)) => if (c = 0 ∧ d = 0) ∧ (¬ i < 0 ∧ ¬ j < 0 ∧ ¬ n < 0) ∧ i.toNatClampNeg + n.toNatClampNeg ≤ a ∧ j.toNatClampNeg + n.toNatClampNeg ≤ b then some (σ.set q (.inl (d, b, .inl (va_cpy f g i.toNatClampNeg j.toNatClampNeg n.toNatClampNeg)))) else none
  | _, _ => none
/-- as many from the stack, the first one first; and the rest -/
def pm_take : Nat → List Value → List Value → Option (List Value × List Value)
  | 0, acc, st => some (acc, st)
  | _ + 1, _, [] => none
  | n + 1, acc, v :: st => pm_take n (v :: acc) st
-- what a call brings
def pm_cV (r : Option pm_R) : Option pm_H := match r with
  | some (none, σ) => some σ
  | _ => none
def pm_cI (r : Option pm_R) : Option (Int32 × pm_H) := match r with
  | some (some (.int x), σ) => some (x, σ)
  | _ => none
def pm_cJ (r : Option pm_R) : Option (Int64 × pm_H) := match r with
  | some (some (.long x), σ) => some (x, σ)
  | _ => none
/-- the fields of a new object of a class: what they hold at first -/
def pm_new : Nat → Option (List Value)
  | 0 => some [.null, .null, .null, .null, .int 0, .int 0]
  | 1 => some [.null, .int 0, .int 0, .int 0, .int 0, .int 0, .int 0]
  | 2 => some [.null, .null, .null, .int 0]
  | 3 => some [.null, .null, .null]
  | 4 => some [.int 0, .int 0, .int 0, .int 0, .int 0, .int 0, .null, .null, .null, .null, .null, .null]
  | 5 => some [.null, .int 0, .int 0, .int 0]
  | 6 => some [.null, .null, .null, .null, .null, .null, .null, .null, .null, .int 0, .int 0, .int 0, .int 0, .int 0, .int 0, .int 0, .int 0]
  | 7 => some [.null, .null, .null, .null, .null, .null, .null, .null, .null, .int 0, .int 0]
  | 8 => some [.int 0, .int 0, .null, .null, .null, .null, .null, .null, .null, .int 0, .null, .int 0, .int 0, .int 0, .int 0, .int 0, .int 0, .int 0, .int 0, .null, .int 0, .int 0, .int 0, .int 0, .null, .null, .null, .null, .null, .int 0]
  | _ => none
def pm_call3 (d : Nat) (r : Option pm_R) (k : List Value → pm_H → Option pm_R) (rest : List Value) : Option pm_R := match d with
  | 0 => (pm_cV r).bind fun σ => k rest σ
  | 1 => (pm_cI r).bind fun z => k (.int z.1 :: rest) z.2
  | _ => (pm_cJ r).bind fun z => k (.long z.1 :: rest) z.2
/-- a call: a the method, b how many from the stack, d: 0, 1, 2 what it returns (nothing, an int, a long), 3 Object's constructor, 4 arraycopy -/
def pm_inv (call : Nat → List Value → pm_H → Option pm_R) (a b d : Nat) (st : List Value) (σ : pm_H) (k : List Value → pm_H → Option pm_R) : Option pm_R := match d with
  | 3 => match st with
    | .ref _ :: r => match Nat.ble r.length 4 with
      | true => k r σ
      | false => none
    | _ => none
  | 4 => match st with
    | [.int n, .int j, .ref q, .int i, .ref p] => (pm_cp σ p i q j n).bind fun σ' => k [] σ'
    | _ => none
  | d => match pm_take b [] st with
    | some (av, r) => match Nat.ble r.length 4 with
      | true => pm_call3 d (call a av σ) k r
      | false => none
    | none => none
def pm_getf (a b d : Nat) (st : List Value) (σ : pm_H) (k : List Value → Option pm_R) : Option pm_R := match st with
  | .ref o :: r => match d with
    | 0 => (pm_gI σ o a b).bind fun x => k (.int x :: r)
    | _ => (pm_gR σ o a b).bind fun x => k (.ref x :: r)
  | _ => none
def pm_putf (a b d : Nat) (st : List Value) (σ : pm_H) (k : List Value → pm_H → Option pm_R) : Option pm_R := match d, st with
  | 0, .int x :: .ref o :: r => (pm_pf σ o a b (.int x)).bind fun σ' => k r σ'
  | 1, .ref x :: .ref o :: r => (pm_pf σ o a b (.ref x)).bind fun σ' => k r σ'
  | _, _ => none
def pm_iald (old : Nat → Option (Nat × (Nat → Int32))) (st : List Value) (σ : pm_H) (k : List Value → Option pm_R) : Option pm_R := match st with
  | .int i :: .ref q :: r => (pm_rd 0 σ q i).bind fun x => k (.int x :: r)
  | .int i :: .retAddr j :: r => (pm_ro old j i).bind fun x => k (.int x :: r)
  | _ => none
def pm_iast (st : List Value) (σ : pm_H) (k : List Value → pm_H → Option pm_R) : Option pm_R := match st with
  | .int x :: .int i :: .ref q :: r => (pm_wr 0 σ q i x).bind fun σ' => k r σ'
  | _ => none
def pm_zald (st : List Value) (σ : pm_H) (k : List Value → Option pm_R) : Option pm_R := match st with
  | .int i :: .ref q :: r => (pm_rd 1 σ q i).bind fun x => k (.int x :: r)
  | _ => none
def pm_zast (st : List Value) (σ : pm_H) (k : List Value → pm_H → Option pm_R) : Option pm_R := match st with
  | .int x :: .int i :: .ref q :: r => (pm_wr 1 σ q i (vp_nar .boolean x)).bind fun σ' => k r σ'
  | _ => none
def pm_aald (st : List Value) (σ : pm_H) (k : List Value → Option pm_R) : Option pm_R := match st with
  | .int i :: .ref q :: r => (pm_rdA σ q i).bind fun x => k (.ref x :: r)
  | _ => none
def pm_aast (st : List Value) (σ : pm_H) (k : List Value → pm_H → Option pm_R) : Option pm_R := match st with
  | .ref x :: .int i :: .ref q :: r => (pm_wrA σ q i x).bind fun σ' => k r σ'
  | _ => none
def pm_alen (old : Nat → Option (Nat × (Nat → Int32))) (st : List Value) (σ : pm_H) (k : List Value → Option pm_R) : Option pm_R := match st with
  | .ref q :: r => (pm_ln σ q).bind fun x => k (.int x :: r)
  | .retAddr j :: r => (pm_lo old j).bind fun x => k (.int x :: r)
  | _ => none
/-- new rows: a the kind (0 ints, 1 booleans, 2 of SHOPS) -/
def pm_newa (a : Nat) (st : List Value) (σ : pm_H) (k : List Value → pm_H → Option pm_R) : Option pm_R := match st with
  | .int n :: r => if ¬ n < 0 ∧ n ≤ 2000 then k (.ref σ.length :: r) (σ ++ [.inl (a, n.toNatClampNeg, match a with
    | 2 => .inr (.inr (.inr (.inr fun _ => none)))
    | _ => .inl fun _ => 0)]) else none
  | _ => none
/-- rows of rows of ints -/
def pm_newm (st : List Value) (σ : pm_H) (k : List Value → pm_H → Option pm_R) : Option pm_R := match st with
  | .int m :: .int n :: r => if (¬ n < 0 ∧ n ≤ 2000) ∧ (¬ m < 0 ∧ m ≤ 2000) then k (.ref σ.length :: r) ((σ ++ [.inl (3, n.toNatClampNeg, .inr (.inr (.inr (.inr fun i => if i < n.toNatClampNeg then some (σ.length + 1 + i) else none))))]) ++ List.replicate n.toNatClampNeg (.inl (0, m.toNatClampNeg, .inl fun _ => 0))) else none
  | _ => none
def pm_newo (a : Nat) (st : List Value) (σ : pm_H) (k : List Value → pm_H → Option pm_R) : Option pm_R := match pm_new a with
  | some fs => k (.ref σ.length :: st) (σ ++ [.inr (a, fs)])
  | none => none
def pm_ret (kind : Nat) (st : List Value) (σ : pm_H) : Option pm_R := match kind, st with
  | 1, [.int x] => some (some (.int x), σ)
  | 2, [.int x] => if x = 0 then some (some (.int 0), σ) else if x = 1 then some (some (.int 1), σ) else none
  | _, _ => none
/-- one instruction, and what goes on behind it -/
def pm_px (call : Nat → List Value → pm_H → Option pm_R) (old : Nat → Option (Nat × (Nat → Int32))) (K : Nat → pm_L → List Value → pm_H → Option pm_R) (M : pm_M) (pc : Nat) (ls : pm_L) (st : List Value) (σ : pm_H) : Option pm_R :=
  match pm_find M.2.2.2 pc with
  | none => none
  | some (i, n, c, a, b, d, sw) => match i with
    | .iconst _ => K (pc + n) ls (.int c :: st) σ
    | .bipush _ => K (pc + n) ls (.int c :: st) σ
    | .sipush _ => K (pc + n) ls (.int c :: st) σ
    | .ldc _ => K (pc + n) ls (.int c :: st) σ
    | .ldc_w _ => K (pc + n) ls (.int c :: st) σ
    | .ldc2_w _ => K (pc + n) ls (.long c.toInt64 :: st) σ
    | .lconst _ => K (pc + n) ls (.long c.toInt64 :: st) σ
    | .iload k => pm_ldi ls k st fun s => K (pc + n) ls s σ
    | .iload_n k => pm_ldi ls k.val st fun s => K (pc + n) ls s σ
    | .lload k => pm_ldl ls k st fun s => K (pc + n) ls s σ
    | .lload_n k => pm_ldl ls k.val st fun s => K (pc + n) ls s σ
    | .aload k => pm_lda ls k st fun s => K (pc + n) ls s σ
    | .aload_n k => pm_lda ls k.val st fun s => K (pc + n) ls s σ
    | .istore k => pm_sti M.2.2.1 ls k st fun l s => K (pc + n) l s σ
    | .istore_n k => pm_sti M.2.2.1 ls k.val st fun l s => K (pc + n) l s σ
    | .lstore k => pm_stl M.2.2.1 ls k st fun l s => K (pc + n) l s σ
    | .lstore_n k => pm_stl M.2.2.1 ls k.val st fun l s => K (pc + n) l s σ
    | .astore k => pm_sta M.2.2.1 ls k st fun l s => K (pc + n) l s σ
    | .astore_n k => pm_sta M.2.2.1 ls k.val st fun l s => K (pc + n) l s σ
    | .iinc k _ => pm_inc M.2.2.1 ls k c fun l => K (pc + n) l st σ
    | .iadd => pm_ii (fun x y => x + y) st fun s => K (pc + n) ls s σ
    | .isub => pm_ii (fun x y => x - y) st fun s => K (pc + n) ls s σ
    | .imul => pm_ii (fun x y => x * y) st fun s => K (pc + n) ls s σ
    | .iand => pm_ii (fun x y => x &&& y) st fun s => K (pc + n) ls s σ
    | .ior => pm_ii (fun x y => x ||| y) st fun s => K (pc + n) ls s σ
    | .ixor => pm_ii (fun x y => x ^^^ y) st fun s => K (pc + n) ls s σ
    | .ishl => pm_ii (fun x y => x <<< (y &&& 31)) st fun s => K (pc + n) ls s σ
    | .ishr => pm_ii (fun x y => x >>> (y &&& 31)) st fun s => K (pc + n) ls s σ
    | .iushr => pm_ii (fun x y => (x.toUInt32 >>> (y.toUInt32 &&& Int32.toUInt32 31)).toInt32) st fun s => K (pc + n) ls s σ
    | .idiv => pm_iz (fun x y => x / y) st fun s => K (pc + n) ls s σ
    | .irem => pm_iz (fun x y => x - x / y * y) st fun s => K (pc + n) ls s σ
    | .ineg => pm_i1 (fun x => .int (-x)) st fun s => K (pc + n) ls s σ
    | .i2l => pm_i1 (fun x => .long x.toInt64) st fun s => K (pc + n) ls s σ
    | .i2b => pm_i1 (fun x => .int x.toInt8.toInt32) st fun s => K (pc + n) ls s σ
    | .i2s => pm_i1 (fun x => .int x.toInt16.toInt32) st fun s => K (pc + n) ls s σ
    | .l2i => pm_l1 (fun x => .int x.toInt32) st fun s => K (pc + n) ls s σ
    | .ladd => pm_ll (fun x y => .long (x + y)) st fun s => K (pc + n) ls s σ
    | .lsub => pm_ll (fun x y => .long (x - y)) st fun s => K (pc + n) ls s σ
    | .lmul => pm_ll (fun x y => .long (x * y)) st fun s => K (pc + n) ls s σ
    | .lcmp => pm_ll (fun x y => .int (lg_cmp x y)) st fun s => K (pc + n) ls s σ
    | .ldiv => pm_lz (fun x y => .long (x / y)) st fun s => K (pc + n) ls s σ
    | .lrem => pm_lz (fun x y => .long (x - x / y * y)) st fun s => K (pc + n) ls s σ
    | .goto _ => K a ls st σ
    | .if_icmp cnd _ => pm_icmp cnd st (fun s => K a ls s σ) fun s => K (pc + n) ls s σ
    | .ifCond cnd _ => pm_ifc cnd st (fun s => K a ls s σ) fun s => K (pc + n) ls s σ
    | .tableswitch _ _ _ _ => pm_sw sw a st fun t s => K t ls s σ
    | .lookupswitch _ _ => pm_sw sw a st fun t s => K t ls s σ
    | .dup => pm_dup st fun s => K (pc + n) ls s σ
    | .dup2 => pm_dup2 st fun s => K (pc + n) ls s σ
    | .getfield _ => pm_getf a b d st σ fun s => K (pc + n) ls s σ
    | .putfield _ => pm_putf a b d st σ fun s z => K (pc + n) ls s z
    | .getstatic _ => K (pc + n) ls (.retAddr a :: st) σ
    | .iaload => pm_iald old st σ fun s => K (pc + n) ls s σ
    | .iastore => pm_iast st σ fun s z => K (pc + n) ls s z
    | .baload => pm_zald st σ fun s => K (pc + n) ls s σ
    | .bastore => pm_zast st σ fun s z => K (pc + n) ls s z
    | .aaload => pm_aald st σ fun s => K (pc + n) ls s σ
    | .aastore => pm_aast st σ fun s z => K (pc + n) ls s z
    | .arraylength => pm_alen old st σ fun s => K (pc + n) ls s σ
    | .newarray _ => pm_newa a st σ fun s z => K (pc + n) ls s z
    | .anewarray _ => pm_newa 2 st σ fun s z => K (pc + n) ls s z
    | .multianewarray _ _ => pm_newm st σ fun s z => K (pc + n) ls s z
    | .new _ => pm_newo a st σ fun s z => K (pc + n) ls s z
    | .invokestatic _ => pm_inv call a b d st σ fun s z => K (pc + n) ls s z
    | .invokevirtual _ => pm_inv call a b d st σ fun s z => K (pc + n) ls s z
    | .invokespecial _ => pm_inv call a b d st σ fun s z => K (pc + n) ls s z
    | .ireturn => pm_ret M.2.1 st σ
    | .lreturn => match st with
      | [.long x] => some (some (.long x), σ)
      | _ => none
    | .return_ => match st with
      | [] => some (none, σ)
      | _ => none
    | _ => none
def pm_run (call : Nat → List Value → pm_H → Option pm_R) (old : Nat → Option (Nat × (Nat → Int32))) (M : pm_M) : Nat → Nat → pm_L → List Value → pm_H → Option pm_R
  | 0, _, _, _, _ => none
  | n + 1, pc, ls, st, σ => pm_px call old (pm_run call old M n) M pc ls st σ
end
section
-- sizes, and what an instruction does with what goes on behind it
def pm_s1 : va_E → Nat
  | .inl x => x.2.1
  | .inr x => x.2.length
def pm_sz : pm_H → Nat
  | [] => 0
  | e :: t => pm_s1 e + pm_sz t
def pm_le (σ τ : pm_H) : Prop := σ.length ≤ τ.length ∧ pm_sz σ ≤ pm_sz τ
theorem pm_le.rf {σ : pm_H} : pm_le σ σ := ⟨Nat.le_refl _, Nat.le_refl _⟩
theorem pm_le.tr {a b c : pm_H} (h : pm_le a b) (g : pm_le b c) : pm_le a c := ⟨Nat.le_trans h.1 g.1, Nat.le_trans h.2 g.2⟩
theorem pm_sz_app (a b : pm_H) : pm_sz (a ++ b) = pm_sz a + pm_sz b := by
  induction a with
  | nil => simp [pm_sz]
  | cons e t ih => simp only [List.cons_append, pm_sz, ih]; omega
theorem pm_sz_set : ∀ (σ : pm_H) (k : Nat) (e0 e : va_E), σ[k]? = some e0 → pm_s1 e = pm_s1 e0 → pm_sz (σ.set k e) = pm_sz σ
  | [], k, e0, e, h, _ => by simp at h
  | x :: t, 0, e0, e, h, g => by
    simp at h
    subst h
    simp [pm_sz, g]
  | x :: t, k + 1, e0, e, h, g => by
    have := pm_sz_set t k e0 e (by simpa using h) g
    simp [pm_sz, this]
theorem pm_le_app (a b : pm_H) : pm_le a (a ++ b) := ⟨by simp, by rw [pm_sz_app]; omega⟩
theorem pm_le_set {σ : pm_H} {k : Nat} {e0 e : va_E} (h : σ[k]? = some e0) (g : pm_s1 e = pm_s1 e0) : pm_le σ (σ.set k e) := ⟨by simp, by rw [pm_sz_set σ k e0 e h g]; omega⟩
def pm_S1 (G : (List Value → Option pm_R) → Option pm_R) : Prop := (∀ k, G k = none) ∨ ∃ s, ∀ k, G k = k s
def pm_S2 (σ : pm_H) (G : (List Value → pm_H → Option pm_R) → Option pm_R) : Prop := (∀ k, G k = none) ∨ ∃ s z, pm_le σ z ∧ ∀ k, G k = k s z
def pm_S3 (G : (pm_L → List Value → Option pm_R) → Option pm_R) : Prop := (∀ k, G k = none) ∨ ∃ l s, ∀ k, G k = k l s
theorem pm_S1.bind {α : Type} (o : Option α) (g : α → List Value) : pm_S1 fun k => o.bind fun x => k (g x) := by
  cases o with
  | none => exact Or.inl fun _ => rfl
  | some x => exact Or.inr ⟨g x, fun _ => rfl⟩
theorem pm_S2.bind {α : Type} {σ : pm_H} (o : Option α) (g : α → List Value) (z : α → pm_H) (h : ∀ x, o = some x → pm_le σ (z x)) : pm_S2 σ fun k => o.bind fun x => k (g x) (z x) := by
  cases o with
  | none => exact Or.inl fun _ => rfl
  | some x => exact Or.inr ⟨g x, z x, h x rfl, fun _ => rfl⟩
theorem pm_ii_S (f : Int32 → Int32 → Int32) (st : List Value) : pm_S1 (pm_ii f st) := by
  unfold pm_S1 pm_ii
  split
  · exact Or.inr ⟨_, fun _ => rfl⟩
  · exact Or.inl fun _ => rfl
theorem pm_iz_S (f : Int32 → Int32 → Int32) (st : List Value) : pm_S1 (pm_iz f st) := by
  unfold pm_S1 pm_iz
  split
  · split
    · exact Or.inl fun _ => rfl
    · exact Or.inr ⟨_, fun _ => rfl⟩
  · exact Or.inl fun _ => rfl
theorem pm_i1_S (f : Int32 → Value) (st : List Value) : pm_S1 (pm_i1 f st) := by
  unfold pm_S1 pm_i1
  split
  · exact Or.inr ⟨_, fun _ => rfl⟩
  · exact Or.inl fun _ => rfl
theorem pm_l1_S (f : Int64 → Value) (st : List Value) : pm_S1 (pm_l1 f st) := by
  unfold pm_S1 pm_l1
  split
  · exact Or.inr ⟨_, fun _ => rfl⟩
  · exact Or.inl fun _ => rfl
theorem pm_ll_S (f : Int64 → Int64 → Value) (st : List Value) : pm_S1 (pm_ll f st) := by
  unfold pm_S1 pm_ll
  split
  · exact Or.inr ⟨_, fun _ => rfl⟩
  · exact Or.inl fun _ => rfl
theorem pm_lz_S (f : Int64 → Int64 → Value) (st : List Value) : pm_S1 (pm_lz f st) := by
  unfold pm_S1 pm_lz
  split
  · split
    · exact Or.inl fun _ => rfl
    · exact Or.inr ⟨_, fun _ => rfl⟩
  · exact Or.inl fun _ => rfl
theorem pm_ldi_S (ls : pm_L) (i : Nat) (st : List Value) : pm_S1 (pm_ldi ls i st) := by
  unfold pm_S1 pm_ldi
  split
  · exact Or.inr ⟨_, fun _ => rfl⟩
  · exact Or.inl fun _ => rfl
theorem pm_ldl_S (ls : pm_L) (i : Nat) (st : List Value) : pm_S1 (pm_ldl ls i st) := by
  unfold pm_S1 pm_ldl
  split
  · exact Or.inr ⟨_, fun _ => rfl⟩
  · exact Or.inl fun _ => rfl
theorem pm_lda_S (ls : pm_L) (i : Nat) (st : List Value) : pm_S1 (pm_lda ls i st) := by
  unfold pm_S1 pm_lda
  split
  · exact Or.inr ⟨_, fun _ => rfl⟩
  · exact Or.inr ⟨_, fun _ => rfl⟩
  · exact Or.inl fun _ => rfl
theorem pm_sti_S (g : List Nat) (ls : pm_L) (i : Nat) (st : List Value) : pm_S3 (pm_sti g ls i st) := by
  unfold pm_S3 pm_sti
  split
  · exact Or.inr ⟨_, _, fun _ => rfl⟩
  · exact Or.inl fun _ => rfl
theorem pm_sta_S (g : List Nat) (ls : pm_L) (i : Nat) (st : List Value) : pm_S3 (pm_sta g ls i st) := by
  unfold pm_S3 pm_sta
  split
  · exact Or.inr ⟨_, _, fun _ => rfl⟩
  · exact Or.inr ⟨_, _, fun _ => rfl⟩
  · exact Or.inl fun _ => rfl
theorem pm_stl_S (g : List Nat) (ls : pm_L) (i : Nat) (st : List Value) : pm_S3 (pm_stl g ls i st) := by
  unfold pm_S3 pm_stl
  split
  · split
    · exact Or.inr ⟨_, _, fun _ => rfl⟩
    · exact Or.inl fun _ => rfl
  · exact Or.inl fun _ => rfl
theorem pm_dup_S (st : List Value) : pm_S1 (pm_dup st) := by
  unfold pm_S1 pm_dup
  split
  · split
    · exact Or.inr ⟨_, fun _ => rfl⟩
    · exact Or.inl fun _ => rfl
  · exact Or.inl fun _ => rfl
theorem pm_dup2_S (st : List Value) : pm_S1 (pm_dup2 st) := by
  unfold pm_S1 pm_dup2
  split
  · split
    · exact Or.inr ⟨_, fun _ => rfl⟩
    · exact Or.inl fun _ => rfl
  · exact Or.inl fun _ => rfl
theorem pm_getf_S (a b d : Nat) (st : List Value) (σ : pm_H) : pm_S1 (pm_getf a b d st σ) := by
  unfold pm_getf
  split
  · split
    · exact pm_S1.bind _ _
    · exact pm_S1.bind _ _
  · exact Or.inl fun _ => rfl
theorem pm_pf_le {σ τ : pm_H} {o ci k : Nat} {v : Value} (h : pm_pf σ o ci k v = some τ) : pm_le σ τ := by
  unfold pm_pf at h
  split at h
  · rename_i c fs hc
    split at h
    · cases h
      exact pm_le_set hc (by simp [pm_s1])
    · cases h
  · cases h
theorem pm_wr_le {σ τ : pm_H} {t q : Nat} {i x : Int32} (h : pm_wr t σ q i x = some τ) : pm_le σ τ := by
  unfold pm_wr at h
  split at h
  · rename_i c n f hc
    split at h
    · cases h
      exact pm_le_set hc (by simp [pm_s1])
    · cases h
  · cases h
theorem pm_wrA_le {σ τ : pm_H} {q : Nat} {i : Int32} {x : Nat} (h : pm_wrA σ q i x = some τ) : pm_le σ τ := by
  unfold pm_wrA at h
  split at h
  · rename_i c n f k fs hc hk
    split at h
    · cases h
      exact pm_le_set hc (by simp [pm_s1])
    · cases h
  · cases h
theorem pm_cp_le {σ τ : pm_H} {p q : Nat} {i j n : Int32} (h : pm_cp σ p i q j n = some τ) : pm_le σ τ := by
  unfold pm_cp at h
  split at h
  · rename_i c a f d b g hc hk
    split at h
    · cases h
      exact pm_le_set hk (by simp [pm_s1])
    · cases h
  · cases h
theorem pm_putf_S (a b d : Nat) (st : List Value) (σ : pm_H) : pm_S2 σ (pm_putf a b d st σ) := by
  unfold pm_putf
  split
  · exact pm_S2.bind _ _ _ fun _ h => pm_pf_le h
  · exact pm_S2.bind _ _ _ fun _ h => pm_pf_le h
  · exact Or.inl fun _ => rfl
theorem pm_iald_S (old : Nat → Option (Nat × (Nat → Int32))) (st : List Value) (σ : pm_H) : pm_S1 (pm_iald old st σ) := by
  unfold pm_iald
  split
  · exact pm_S1.bind _ _
  · exact pm_S1.bind _ _
  · exact Or.inl fun _ => rfl
theorem pm_iast_S (st : List Value) (σ : pm_H) : pm_S2 σ (pm_iast st σ) := by
  unfold pm_iast
  split
  · exact pm_S2.bind _ _ _ fun _ h => pm_wr_le h
  · exact Or.inl fun _ => rfl
theorem pm_zald_S (st : List Value) (σ : pm_H) : pm_S1 (pm_zald st σ) := by
  unfold pm_zald
  split
  · exact pm_S1.bind _ _
  · exact Or.inl fun _ => rfl
theorem pm_zast_S (st : List Value) (σ : pm_H) : pm_S2 σ (pm_zast st σ) := by
  unfold pm_zast
  split
  · exact pm_S2.bind _ _ _ fun _ h => pm_wr_le h
  · exact Or.inl fun _ => rfl
theorem pm_aald_S (st : List Value) (σ : pm_H) : pm_S1 (pm_aald st σ) := by
  unfold pm_aald
  split
  · exact pm_S1.bind _ _
  · exact Or.inl fun _ => rfl
theorem pm_aast_S (st : List Value) (σ : pm_H) : pm_S2 σ (pm_aast st σ) := by
  unfold pm_aast
  split
  · exact pm_S2.bind _ _ _ fun _ h => pm_wrA_le h
  · exact Or.inl fun _ => rfl
theorem pm_alen_S (old : Nat → Option (Nat × (Nat → Int32))) (st : List Value) (σ : pm_H) : pm_S1 (pm_alen old st σ) := by
  unfold pm_alen
  split
  · exact pm_S1.bind _ _
  · exact pm_S1.bind _ _
  · exact Or.inl fun _ => rfl
theorem pm_newa_S (a : Nat) (st : List Value) (σ : pm_H) : pm_S2 σ (pm_newa a st σ) := by
  unfold pm_S2 pm_newa
  split
  · split
    · exact Or.inr ⟨_, _, pm_le_app _ _, fun _ => rfl⟩
    · exact Or.inl fun _ => rfl
  · exact Or.inl fun _ => rfl
theorem pm_newm_S (st : List Value) (σ : pm_H) : pm_S2 σ (pm_newm st σ) := by
  unfold pm_S2 pm_newm
  split
  · split
    · exact Or.inr ⟨_, _, (pm_le_app _ _).tr (pm_le_app _ _), fun _ => rfl⟩
    · exact Or.inl fun _ => rfl
  · exact Or.inl fun _ => rfl
theorem pm_newo_S (a : Nat) (st : List Value) (σ : pm_H) : pm_S2 σ (pm_newo a st σ) := by
  unfold pm_S2 pm_newo
  split
  · exact Or.inr ⟨_, _, pm_le_app _ _, fun _ => rfl⟩
  · exact Or.inl fun _ => rfl
theorem pm_cV_le {σ τ : pm_H} {r : Option pm_R} (hc : ∀ z, r = some z → pm_le σ z.2) (h : pm_cV r = some τ) : pm_le σ τ := by
  unfold pm_cV at h
  split at h
  · cases h; exact hc _ rfl
  · cases h
theorem pm_cI_le {σ : pm_H} {τ : Int32 × pm_H} {r : Option pm_R} (hc : ∀ z, r = some z → pm_le σ z.2) (h : pm_cI r = some τ) : pm_le σ τ.2 := by
  unfold pm_cI at h
  split at h
  · cases h; exact hc _ rfl
  · cases h
theorem pm_cJ_le {σ : pm_H} {τ : Int64 × pm_H} {r : Option pm_R} (hc : ∀ z, r = some z → pm_le σ z.2) (h : pm_cJ r = some τ) : pm_le σ τ.2 := by
  unfold pm_cJ at h
  split at h
  · cases h; exact hc _ rfl
  · cases h
theorem pm_call3_S (d : Nat) (r : Option pm_R) (rest : List Value) (σ : pm_H) (hc : ∀ z, r = some z → pm_le σ z.2) : pm_S2 σ (fun k => pm_call3 d r k rest) := by
  unfold pm_call3
  split
  · exact pm_S2.bind _ _ _ fun _ h => pm_cV_le hc h
  · exact pm_S2.bind _ _ _ fun _ h => pm_cI_le hc h
  · exact pm_S2.bind _ _ _ fun _ h => pm_cJ_le hc h
theorem pm_inv_S (call : Nat → List Value → pm_H → Option pm_R) (hc : ∀ a av σ r, call a av σ = some r → pm_le σ r.2) (a b d : Nat) (st : List Value) (σ : pm_H) : pm_S2 σ (pm_inv call a b d st σ) := by
  unfold pm_inv
  split
  · split
    · split
      · exact Or.inr ⟨_, _, pm_le.rf, fun _ => rfl⟩
      · exact Or.inl fun _ => rfl
    · exact Or.inl fun _ => rfl
  · split
    · exact pm_S2.bind _ _ _ fun _ h => pm_cp_le h
    · exact Or.inl fun _ => rfl
  · split
    · split
      · exact pm_call3_S _ _ _ _ fun z h => hc _ _ _ _ h
      · exact Or.inl fun _ => rfl
    · exact Or.inl fun _ => rfl
abbrev pm_KT : Type := Nat → pm_L → List Value → pm_H → Option pm_R
/-- nothing, or an answer at once, or what goes on at one place -/
def pm_Lin (σ : pm_H) (F : pm_KT → Option pm_R) : Prop := (∀ K, F K = none) ∨ (∃ r : pm_R, pm_le σ r.2 ∧ ∀ K, F K = some r) ∨ ∃ (pc : Nat) (ls : pm_L) (st : List Value) (τ : pm_H), pm_le σ τ ∧ ∀ K, F K = K pc ls st τ
theorem pm_S1.lin {G : (List Value → Option pm_R) → Option pm_R} (h : pm_S1 G) (pc : Nat) (ls : pm_L) (σ : pm_H) : pm_Lin σ fun K => G fun s => K pc ls s σ := by
  rcases h with h | ⟨s, h⟩
  · exact Or.inl fun K => h _
  · exact Or.inr (Or.inr ⟨pc, ls, s, σ, pm_le.rf, fun K => h _⟩)
theorem pm_S2.lin {σ : pm_H} {G : (List Value → pm_H → Option pm_R) → Option pm_R} (h : pm_S2 σ G) (pc : Nat) (ls : pm_L) : pm_Lin σ fun K => G fun s z => K pc ls s z := by
  rcases h with h | ⟨s, z, g, h⟩
  · exact Or.inl fun K => h _
  · exact Or.inr (Or.inr ⟨pc, ls, s, z, g, fun K => h _⟩)
theorem pm_S3.lin {G : (pm_L → List Value → Option pm_R) → Option pm_R} (h : pm_S3 G) (pc : Nat) (σ : pm_H) : pm_Lin σ fun K => G fun l s => K pc l s σ := by
  rcases h with h | ⟨l, s, h⟩
  · exact Or.inl fun K => h _
  · exact Or.inr (Or.inr ⟨pc, l, s, σ, pm_le.rf, fun K => h _⟩)
theorem pm_go_lin (pc : Nat) (ls : pm_L) (st : List Value) (σ : pm_H) : pm_Lin σ fun K => K pc ls st σ := Or.inr (Or.inr ⟨pc, ls, st, σ, pm_le.rf, fun _ => rfl⟩)
theorem pm_inc_lin (g : List Nat) (ls : pm_L) (i : Nat) (c : Int32) (pc : Nat) (st : List Value) (σ : pm_H) : pm_Lin σ fun K => pm_inc g ls i c fun l => K pc l st σ := by
  unfold pm_inc
  split
  · exact pm_go_lin _ _ _ _
  · exact Or.inl fun _ => rfl
theorem pm_if_lin {σ : pm_H} {p : Prop} {_ : Decidable p} {F G : pm_KT → Option pm_R} (hF : pm_Lin σ F) (hG : pm_Lin σ G) : pm_Lin σ fun K => if p then F K else G K := by
  by_cases h : p
  · simp only [h, if_true]; exact hF
  · simp only [h, if_false]; exact hG
theorem pm_icmp_lin (cnd : Jvm.ClassFile.Cond) (ls : pm_L) (a b : Nat) (st : List Value) (σ : pm_H) : pm_Lin σ fun K => pm_icmp cnd st (fun s => K a ls s σ) fun s => K b ls s σ := by
  unfold pm_icmp
  split
  · split <;> exact pm_if_lin (pm_go_lin _ _ _ _) (pm_go_lin _ _ _ _)
  · exact Or.inl fun _ => rfl
theorem pm_ifc_lin (cnd : Jvm.ClassFile.Cond) (ls : pm_L) (a b : Nat) (st : List Value) (σ : pm_H) : pm_Lin σ fun K => pm_ifc cnd st (fun s => K a ls s σ) fun s => K b ls s σ := by
  unfold pm_ifc
  split
  · split <;> exact pm_if_lin (pm_go_lin _ _ _ _) (pm_go_lin _ _ _ _)
  · exact Or.inl fun _ => rfl
theorem pm_arms_lin (x : Int32) (ls : pm_L) (r : List Value) (σ : pm_H) (a : Nat) : ∀ sw : List (Int32 × Nat), pm_Lin σ fun K => pm_arms x (fun t => K t ls r σ) (K a ls r σ) sw
  | [] => pm_go_lin _ _ _ _
  | (v, t) :: l => pm_if_lin (F := fun K => K t ls r σ) (G := fun K => pm_arms x (fun t => K t ls r σ) (K a ls r σ) l) (pm_go_lin _ _ _ _) (pm_arms_lin x ls r σ a l)
theorem pm_sw_lin (sw : List (Int32 × Nat)) (ls : pm_L) (a : Nat) (st : List Value) (σ : pm_H) : pm_Lin σ fun K => pm_sw sw a st fun t s => K t ls s σ := by
  unfold pm_sw
  split
  · exact pm_arms_lin _ _ _ _ _ _
  · exact Or.inl fun _ => rfl
theorem pm_ret_lin (k : Nat) (st : List Value) (σ : pm_H) : pm_Lin σ fun _ => pm_ret k st σ := by
  unfold pm_ret
  split
  · exact Or.inr (Or.inl ⟨_, pm_le.rf, fun _ => rfl⟩)
  · split
    · exact Or.inr (Or.inl ⟨_, pm_le.rf, fun _ => rfl⟩)
    · split
      · exact Or.inr (Or.inl ⟨_, pm_le.rf, fun _ => rfl⟩)
      · exact Or.inl fun _ => rfl
  · exact Or.inl fun _ => rfl
set_option maxHeartbeats 4000000 in
theorem pm_px_lin (call : Nat → List Value → pm_H → Option pm_R) (hc : ∀ a av σ r, call a av σ = some r → pm_le σ r.2) (old : Nat → Option (Nat × (Nat → Int32))) (M : pm_M) (pc : Nat) (ls : pm_L) (st : List Value) (σ : pm_H) : pm_Lin σ fun K => pm_px call old K M pc ls st σ := by
  unfold pm_px
  split
  · exact Or.inl fun _ => rfl
  · rename_i i n c a b d sw _
    cases i
    case lreturn =>
      dsimp only
      split
      · exact Or.inr (Or.inl ⟨_, pm_le.rf, fun _ => rfl⟩)
      · exact Or.inl fun _ => rfl
    case return_ =>
      dsimp only
      split
      · exact Or.inr (Or.inl ⟨_, pm_le.rf, fun _ => rfl⟩)
      · exact Or.inl fun _ => rfl
    all_goals first
      | exact Or.inl fun _ => rfl
      | exact pm_go_lin _ _ _ _
      | exact (pm_ldi_S _ _ _).lin _ _ _
      | exact (pm_ldl_S _ _ _).lin _ _ _
      | exact (pm_lda_S _ _ _).lin _ _ _
      | exact (pm_sti_S _ _ _ _).lin _ _
      | exact (pm_stl_S _ _ _ _).lin _ _
      | exact (pm_sta_S _ _ _ _).lin _ _
      | exact pm_inc_lin _ _ _ _ _ _ _
      | exact (pm_ii_S _ _).lin _ _ _
      | exact (pm_iz_S _ _).lin _ _ _
      | exact (pm_i1_S _ _).lin _ _ _
      | exact (pm_l1_S _ _).lin _ _ _
      | exact (pm_ll_S _ _).lin _ _ _
      | exact (pm_lz_S _ _).lin _ _ _
      | exact pm_icmp_lin _ _ _ _ _ _
      | exact pm_ifc_lin _ _ _ _ _ _
      | exact pm_sw_lin _ _ _ _ _
      | exact (pm_dup_S _).lin _ _ _
      | exact (pm_dup2_S _).lin _ _ _
      | exact (pm_getf_S _ _ _ _ _).lin _ _ _
      | exact (pm_putf_S _ _ _ _ _).lin _ _
      | exact (pm_iald_S _ _ _).lin _ _ _
      | exact (pm_iast_S _ _).lin _ _
      | exact (pm_zald_S _ _).lin _ _ _
      | exact (pm_zast_S _ _).lin _ _
      | exact (pm_aald_S _ _).lin _ _ _
      | exact (pm_aast_S _ _).lin _ _
      | exact (pm_alen_S _ _ _).lin _ _ _
      | exact (pm_newa_S _ _ _).lin _ _
      | exact (pm_newm_S _ _).lin _ _
      | exact (pm_newo_S _ _ _).lin _ _
      | exact (pm_inv_S _ hc _ _ _ _ _).lin _ _
      | exact pm_ret_lin _ _ _
theorem pm_run_succ {call : Nat → List Value → pm_H → Option pm_R} (hc : ∀ a av σ r, call a av σ = some r → pm_le σ r.2) {old : Nat → Option (Nat × (Nat → Int32))} {M : pm_M} : ∀ (n pc : Nat) (ls : pm_L) (st : List Value) (σ : pm_H) (r : pm_R), pm_run call old M n pc ls st σ = some r → pm_run call old M (n + 1) pc ls st σ = some r ∧ pm_le σ r.2
  | 0, _, _, _, _, _, h => by cases h
  | n + 1, pc, ls, st, σ, r, h => by
    have h1 : pm_px call old (pm_run call old M n) M pc ls st σ = some r := h
    show pm_px call old (pm_run call old M (n + 1)) M pc ls st σ = some r ∧ _
    rcases pm_px_lin call hc old M pc ls st σ with g | ⟨r', g1, g⟩ | ⟨pc', ls', st', τ, g1, g⟩
    · have := g (pm_run call old M n)
      dsimp only at this
      rw [this] at h1; cases h1
    · have e1 := g (pm_run call old M n)
      dsimp only at e1
      rw [e1] at h1; cases h1
      exact ⟨g _, g1⟩
    · have e1 := g (pm_run call old M n)
      have e2 := g (pm_run call old M (n + 1))
      dsimp only at e1 e2
      rw [e1] at h1
      obtain ⟨a1, a2⟩ := pm_run_succ hc n pc' ls' st' τ r h1
      exact ⟨by rw [e2]; exact a1, g1.tr a2⟩
theorem pm_run_mono {call : Nat → List Value → pm_H → Option pm_R} (hc : ∀ a av σ r, call a av σ = some r → pm_le σ r.2) {old : Nat → Option (Nat × (Nat → Int32))} {M : pm_M} {n pc : Nat} {ls : pm_L} {st : List Value} {σ : pm_H} {r : pm_R} (h : pm_run call old M n pc ls st σ = some r) : ∀ k, pm_run call old M (n + k) pc ls st σ = some r
  | 0 => h
  | k + 1 => (pm_run_succ hc (n + k) pc ls st σ r (pm_run_mono hc h k)).1
/-- what a run answers, however long it takes -/
noncomputable def pm_ev (call : Nat → List Value → pm_H → Option pm_R) (old : Nat → Option (Nat × (Nat → Int32))) (M : pm_M) (pc : Nat) (ls : pm_L) (st : List Value) (σ : pm_H) : Option pm_R :=
  @dite _ (∃ n, (pm_run call old M n pc ls st σ).isSome = true) (Classical.propDecidable _) (fun h => pm_run call old M (Classical.choose h) pc ls st σ) (fun _ => none)
theorem pm_ev_run {call : Nat → List Value → pm_H → Option pm_R} {old : Nat → Option (Nat × (Nat → Int32))} {M : pm_M} {pc : Nat} {ls : pm_L} {st : List Value} {σ : pm_H} {r : pm_R} (h : pm_ev call old M pc ls st σ = some r) : ∃ n, pm_run call old M n pc ls st σ = some r := by
  unfold pm_ev at h
  split at h
  · exact ⟨_, h⟩
  · cases h
theorem pm_ev_of {call : Nat → List Value → pm_H → Option pm_R} (hc : ∀ a av σ r, call a av σ = some r → pm_le σ r.2) {old : Nat → Option (Nat × (Nat → Int32))} {M : pm_M} {n pc : Nat} {ls : pm_L} {st : List Value} {σ : pm_H} {r : pm_R} (h : pm_run call old M n pc ls st σ = some r) : pm_ev call old M pc ls st σ = some r := by
  have hx : ∃ n, (pm_run call old M n pc ls st σ).isSome = true := ⟨n, by rw [h]; rfl⟩
  unfold pm_ev
  rw [dif_pos hx]
  have h2 := Classical.choose_spec hx
  generalize Classical.choose hx = m at h2 ⊢
  obtain ⟨r2, h3⟩ := Option.isSome_iff_exists.mp h2
  have a1 := pm_run_mono hc h m
  have a2 := pm_run_mono hc h3 n
  rw [Nat.add_comm] at a2
  rw [h3]
  exact a2.symm.trans a1
theorem pm_ev_eq {call : Nat → List Value → pm_H → Option pm_R} (hc : ∀ a av σ r, call a av σ = some r → pm_le σ r.2) (old : Nat → Option (Nat × (Nat → Int32))) (M : pm_M) (pc : Nat) (ls : pm_L) (st : List Value) (σ : pm_H) : pm_ev call old M pc ls st σ = pm_px call old (pm_ev call old M) M pc ls st σ := by
  rcases pm_px_lin call hc old M pc ls st σ with g | ⟨r', g1, g⟩ | ⟨pc', ls', st', τ, g1, g⟩
  · have e1 := g (pm_ev call old M)
    dsimp only at e1
    rw [e1]
    cases h : pm_ev call old M pc ls st σ with
    | none => rfl
    | some r =>
      obtain ⟨n, hn⟩ := pm_ev_run h
      cases n with
      | zero => cases hn
      | succ n =>
        have := g (pm_run call old M n)
        dsimp only at this
        have h1 : pm_px call old (pm_run call old M n) M pc ls st σ = some r := hn
        rw [this] at h1; cases h1
  · have e1 := g (pm_ev call old M)
    dsimp only at e1
    rw [e1]
    exact pm_ev_of hc (n := 1) (g _)
  · have e1 := g (pm_ev call old M)
    dsimp only at e1
    rw [e1]
    cases h : pm_ev call old M pc' ls' st' τ with
    | some r =>
      obtain ⟨n, hn⟩ := pm_ev_run h
      have e2 := g (pm_run call old M n)
      dsimp only at e2
      exact pm_ev_of hc (n := n + 1) (e2.trans hn)
    | none =>
      cases h2 : pm_ev call old M pc ls st σ with
      | none => rfl
      | some r =>
        obtain ⟨n, hn⟩ := pm_ev_run h2
        cases n with
        | zero => cases hn
        | succ n =>
          have e2 := g (pm_run call old M n)
          dsimp only at e2
          have h1 : pm_px call old (pm_run call old M n) M pc ls st σ = some r := hn
          rw [e2] at h1
          rw [pm_ev_of hc h1] at h
          cases h
/-- a block: as many steps, but no step out of a place of S -/
noncomputable def pm_blk (call : Nat → List Value → pm_H → Option pm_R) (old : Nat → Option (Nat × (Nat → Int32))) (M : pm_M) (S : List Nat) : Nat → Nat → pm_L → List Value → pm_H → Option pm_R
  | 0, pc, ls, st, σ => pm_ev call old M pc ls st σ
  | n + 1, pc, ls, st, σ => pm_px call old (fun pc' ls' st' σ' => match pm_isL S pc' with
    | true => pm_ev call old M pc' ls' st' σ'
    | false => pm_blk call old M S n pc' ls' st' σ') M pc ls st σ
theorem pm_blk_eq {call : Nat → List Value → pm_H → Option pm_R} (hc : ∀ a av σ r, call a av σ = some r → pm_le σ r.2) (old : Nat → Option (Nat × (Nat → Int32))) (M : pm_M) (S : List Nat) : ∀ (n pc : Nat) (ls : pm_L) (st : List Value) (σ : pm_H), pm_ev call old M pc ls st σ = pm_blk call old M S n pc ls st σ
  | 0, _, _, _, _ => rfl
  | n + 1, pc, ls, st, σ => by
    rw [pm_ev_eq hc]
    show _ = pm_px call old _ M pc ls st σ
    congr 1
    funext pc' ls' st' σ'
    cases pm_isL S pc' with
    | true => rfl
    | false => exact pm_blk_eq hc old M S n pc' ls' st' σ'
end
