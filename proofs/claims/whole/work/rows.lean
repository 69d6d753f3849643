section
-- ===== PART A: goes FIRST, ahead of the names: the tables' words, and 'selects' of the private methods out of them =====
/-- a private method of a class that the tables say can be made, by its rows of tables_1 -/
def lw_okq (q : MethodName × Nat) : Prop := (q.1.cls ≠ "java/lang/invoke/MethodHandle" ∧ q.1.cls ≠ "java/lang/invoke/VarHandle") ∧ Cond.instantiable q.1.cls q.2 ∈ tables_1 ∧ Cond.privateMethod q.1 ∈ tables_1 ∧ Cond.instanceMethod q.1 ∈ tables_1
theorem lw_p0 : lw_okq (⟨"java/util/ArrayList", "add", "(Ljava/lang/Object;[Ljava/lang/Object;I)V"⟩, 3) := ⟨⟨by decide +kernel, by decide +kernel⟩, List.mem_of_getElem? (i := 51) (by decide +kernel), List.mem_of_getElem? (i := 264) (by decide +kernel), List.mem_of_getElem? (i := 265) (by decide +kernel)⟩
theorem lw_p1 : lw_okq (⟨"java/util/ArrayList", "grow", "()[Ljava/lang/Object;"⟩, 3) := ⟨⟨by decide +kernel, by decide +kernel⟩, List.mem_of_getElem? (i := 51) (by decide +kernel), List.mem_of_getElem? (i := 268) (by decide +kernel), List.mem_of_getElem? (i := 269) (by decide +kernel)⟩
theorem lw_p2 : lw_okq (⟨"java/util/ArrayList", "grow", "(I)[Ljava/lang/Object;"⟩, 3) := ⟨⟨by decide +kernel, by decide +kernel⟩, List.mem_of_getElem? (i := 51) (by decide +kernel), List.mem_of_getElem? (i := 272) (by decide +kernel), List.mem_of_getElem? (i := 273) (by decide +kernel)⟩
theorem lw_p3 : lw_okq (⟨"LessonCards$Deck", "reach", "(II)I"⟩, 3) := ⟨⟨by decide +kernel, by decide +kernel⟩, List.mem_of_getElem? (i := 45) (by decide +kernel), List.mem_of_getElem? (i := 371) (by decide +kernel), List.mem_of_getElem? (i := 372) (by decide +kernel)⟩
theorem lw_p4 : lw_okq (⟨"LessonCards", "learnerAt", "(I)LLessonCards$Learner;"⟩, 11) := ⟨⟨by decide +kernel, by decide +kernel⟩, List.mem_of_getElem? (i := 22) (by decide +kernel), List.mem_of_getElem? (i := 403) (by decide +kernel), List.mem_of_getElem? (i := 404) (by decide +kernel)⟩
theorem lw_p5 : lw_okq (⟨"LessonCards$Learner", "sinkLast", "(LLessonCards$Curve;)V"⟩, 4) := ⟨⟨by decide +kernel, by decide +kernel⟩, List.mem_of_getElem? (i := 89) (by decide +kernel), List.mem_of_getElem? (i := 457) (by decide +kernel), List.mem_of_getElem? (i := 458) (by decide +kernel)⟩
theorem lw_p6 : lw_okq (⟨"LessonCards$Learner", "chanceAt", "(ILLessonCards$Curve;)I"⟩, 4) := ⟨⟨by decide +kernel, by decide +kernel⟩, List.mem_of_getElem? (i := 89) (by decide +kernel), List.mem_of_getElem? (i := 461) (by decide +kernel), List.mem_of_getElem? (i := 462) (by decide +kernel)⟩
theorem lw_p7 : lw_okq (⟨"LessonCards$Learner", "hasCard", "(I)Z"⟩, 4) := ⟨⟨by decide +kernel, by decide +kernel⟩, List.mem_of_getElem? (i := 89) (by decide +kernel), List.mem_of_getElem? (i := 491) (by decide +kernel), List.mem_of_getElem? (i := 492) (by decide +kernel)⟩
theorem lw_p8 : lw_okq (⟨"LessonCards$Learner", "isReady", "(LLessonCards$Card;LLessonCards$Curve;)Z"⟩, 4) := ⟨⟨by decide +kernel, by decide +kernel⟩, List.mem_of_getElem? (i := 89) (by decide +kernel), List.mem_of_getElem? (i := 496) (by decide +kernel), List.mem_of_getElem? (i := 497) (by decide +kernel)⟩
theorem lw_p9 : lw_okq (⟨"LessonCards$Memory", "moveByBoxes", "(I)V"⟩, 7) := ⟨⟨by decide +kernel, by decide +kernel⟩, List.mem_of_getElem? (i := 225) (by decide +kernel), List.mem_of_getElem? (i := 581) (by decide +kernel), List.mem_of_getElem? (i := 582) (by decide +kernel)⟩
theorem lw_p10 : lw_okq (⟨"LessonCards$Memory", "moveByStrengths", "(II)V"⟩, 7) := ⟨⟨by decide +kernel, by decide +kernel⟩, List.mem_of_getElem? (i := 225) (by decide +kernel), List.mem_of_getElem? (i := 590) (by decide +kernel), List.mem_of_getElem? (i := 591) (by decide +kernel)⟩
theorem lw_p11 : lw_okq (⟨"LessonCards", "memoryOf", "(III)LLessonCards$Memory;"⟩, 11) := ⟨⟨by decide +kernel, by decide +kernel⟩, List.mem_of_getElem? (i := 22) (by decide +kernel), List.mem_of_getElem? (i := 628) (by decide +kernel), List.mem_of_getElem? (i := 629) (by decide +kernel)⟩
theorem lw_p12 : lw_okq (⟨"java/util/ArrayList", "fastRemove", "([Ljava/lang/Object;I)V"⟩, 3) := ⟨⟨by decide +kernel, by decide +kernel⟩, List.mem_of_getElem? (i := 51) (by decide +kernel), List.mem_of_getElem? (i := 650) (by decide +kernel), List.mem_of_getElem? (i := 651) (by decide +kernel)⟩
theorem lw_p13 : lw_okq (⟨"LessonCards", "isAskedOn", "(LLessonCards$Hand;II)Z"⟩, 11) := ⟨⟨by decide +kernel, by decide +kernel⟩, List.mem_of_getElem? (i := 22) (by decide +kernel), List.mem_of_getElem? (i := 720) (by decide +kernel), List.mem_of_getElem? (i := 721) (by decide +kernel)⟩
theorem lw_p14 : lw_okq (⟨"LessonCards$Evening", "addSide", "(II)V"⟩, 6) := ⟨⟨by decide +kernel, by decide +kernel⟩, List.mem_of_getElem? (i := 115) (by decide +kernel), List.mem_of_getElem? (i := 738) (by decide +kernel), List.mem_of_getElem? (i := 739) (by decide +kernel)⟩
theorem lw_p15 : lw_okq (⟨"LessonCards$Evening", "fits", "(II)Z"⟩, 6) := ⟨⟨by decide +kernel, by decide +kernel⟩, List.mem_of_getElem? (i := 115) (by decide +kernel), List.mem_of_getElem? (i := 746) (by decide +kernel), List.mem_of_getElem? (i := 747) (by decide +kernel)⟩
def lw_privs_1 : List (MethodName × Nat) := [(⟨"java/util/ArrayList", "add", "(Ljava/lang/Object;[Ljava/lang/Object;I)V"⟩, 3), (⟨"java/util/ArrayList", "grow", "()[Ljava/lang/Object;"⟩, 3), (⟨"java/util/ArrayList", "grow", "(I)[Ljava/lang/Object;"⟩, 3), (⟨"LessonCards$Deck", "reach", "(II)I"⟩, 3), (⟨"LessonCards", "learnerAt", "(I)LLessonCards$Learner;"⟩, 11), (⟨"LessonCards$Learner", "sinkLast", "(LLessonCards$Curve;)V"⟩, 4), (⟨"LessonCards$Learner", "chanceAt", "(ILLessonCards$Curve;)I"⟩, 4), (⟨"LessonCards$Learner", "hasCard", "(I)Z"⟩, 4), (⟨"LessonCards$Learner", "isReady", "(LLessonCards$Card;LLessonCards$Curve;)Z"⟩, 4), (⟨"LessonCards$Memory", "moveByBoxes", "(I)V"⟩, 7), (⟨"LessonCards$Memory", "moveByStrengths", "(II)V"⟩, 7), (⟨"LessonCards", "memoryOf", "(III)LLessonCards$Memory;"⟩, 11), (⟨"java/util/ArrayList", "fastRemove", "([Ljava/lang/Object;I)V"⟩, 3), (⟨"LessonCards", "isAskedOn", "(LLessonCards$Hand;II)Z"⟩, 11), (⟨"LessonCards$Evening", "addSide", "(II)V"⟩, 6), (⟨"LessonCards$Evening", "fits", "(II)Z"⟩, 6)]
theorem lw_r1 : ∀ q ∈ lw_privs_1, lw_okq q := List.forall_mem_cons.mpr ⟨lw_p0, List.forall_mem_cons.mpr ⟨lw_p1, List.forall_mem_cons.mpr ⟨lw_p2, List.forall_mem_cons.mpr ⟨lw_p3, List.forall_mem_cons.mpr ⟨lw_p4, List.forall_mem_cons.mpr ⟨lw_p5, List.forall_mem_cons.mpr ⟨lw_p6, List.forall_mem_cons.mpr ⟨lw_p7, List.forall_mem_cons.mpr ⟨lw_p8, List.forall_mem_cons.mpr ⟨lw_p9, List.forall_mem_cons.mpr ⟨lw_p10, List.forall_mem_cons.mpr ⟨lw_p11, List.forall_mem_cons.mpr ⟨lw_p12, List.forall_mem_cons.mpr ⟨lw_p13, List.forall_mem_cons.mpr ⟨lw_p14, List.forall_mem_cons.mpr ⟨lw_p15, fun _ h => absurd h List.not_mem_nil⟩⟩⟩⟩⟩⟩⟩⟩⟩⟩⟩⟩⟩⟩⟩⟩
theorem lw_p16 : lw_okq (⟨"LessonCards$Evening", "putOn", "(II)V"⟩, 6) := ⟨⟨by decide +kernel, by decide +kernel⟩, List.mem_of_getElem? (i := 115) (by decide +kernel), List.mem_of_getElem? (i := 750) (by decide +kernel), List.mem_of_getElem? (i := 751) (by decide +kernel)⟩
theorem lw_p17 : lw_okq (⟨"LessonCards$LevelTest", "greatestBehind", "(IZ)J"⟩, 6) := ⟨⟨by decide +kernel, by decide +kernel⟩, List.mem_of_getElem? (i := 140) (by decide +kernel), List.mem_of_getElem? (i := 783) (by decide +kernel), List.mem_of_getElem? (i := 784) (by decide +kernel)⟩
theorem lw_p18 : lw_okq (⟨"LessonCards$LevelTest", "factorOf", "(IIZ)I"⟩, 6) := ⟨⟨by decide +kernel, by decide +kernel⟩, List.mem_of_getElem? (i := 140) (by decide +kernel), List.mem_of_getElem? (i := 787) (by decide +kernel), List.mem_of_getElem? (i := 788) (by decide +kernel)⟩
theorem lw_p19 : lw_okq (⟨"LessonCards$LevelTest", "isClear", "()Z"⟩, 6) := ⟨⟨by decide +kernel, by decide +kernel⟩, List.mem_of_getElem? (i := 140) (by decide +kernel), List.mem_of_getElem? (i := 803) (by decide +kernel), List.mem_of_getElem? (i := 804) (by decide +kernel)⟩
theorem lw_p20 : lw_okq (⟨"LessonCards", "retell", "(II)J"⟩, 11) := ⟨⟨by decide +kernel, by decide +kernel⟩, List.mem_of_getElem? (i := 22) (by decide +kernel), List.mem_of_getElem? (i := 843) (by decide +kernel), List.mem_of_getElem? (i := 844) (by decide +kernel)⟩
theorem lw_p21 : lw_okq (⟨"LessonCards", "retellOne", "(LLessonCards$Memory;LLessonCards$Entry;I)V"⟩, 11) := ⟨⟨by decide +kernel, by decide +kernel⟩, List.mem_of_getElem? (i := 22) (by decide +kernel), List.mem_of_getElem? (i := 860) (by decide +kernel), List.mem_of_getElem? (i := 861) (by decide +kernel)⟩
theorem lw_p22 : lw_okq (⟨"LessonCardsModel", "isCard", "(I)Z"⟩, 48) := ⟨⟨by decide +kernel, by decide +kernel⟩, List.mem_of_getElem? (i := 888) (by decide +kernel), List.mem_of_getElem? (i := 1050) (by decide +kernel), List.mem_of_getElem? (i := 1051) (by decide +kernel)⟩
theorem lw_p23 : lw_okq (⟨"LessonCardsModel", "leads", "(II)Z"⟩, 48) := ⟨⟨by decide +kernel, by decide +kernel⟩, List.mem_of_getElem? (i := 888) (by decide +kernel), List.mem_of_getElem? (i := 1054) (by decide +kernel), List.mem_of_getElem? (i := 1055) (by decide +kernel)⟩
theorem lw_p24 : lw_okq (⟨"LessonCardsModel", "dueSide", "(IIIZ)I"⟩, 48) := ⟨⟨by decide +kernel, by decide +kernel⟩, List.mem_of_getElem? (i := 888) (by decide +kernel), List.mem_of_getElem? (i := 1082) (by decide +kernel), List.mem_of_getElem? (i := 1083) (by decide +kernel)⟩
theorem lw_p25 : lw_okq (⟨"LessonCardsModel", "take", "(I)V"⟩, 48) := ⟨⟨by decide +kernel, by decide +kernel⟩, List.mem_of_getElem? (i := 888) (by decide +kernel), List.mem_of_getElem? (i := 1086) (by decide +kernel), List.mem_of_getElem? (i := 1087) (by decide +kernel)⟩
theorem lw_p26 : lw_okq (⟨"LessonCardsModel", "isDue", "(I)Z"⟩, 48) := ⟨⟨by decide +kernel, by decide +kernel⟩, List.mem_of_getElem? (i := 888) (by decide +kernel), List.mem_of_getElem? (i := 1090) (by decide +kernel), List.mem_of_getElem? (i := 1091) (by decide +kernel)⟩
theorem lw_p27 : lw_okq (⟨"LessonCardsModel", "isLeech", "()Z"⟩, 48) := ⟨⟨by decide +kernel, by decide +kernel⟩, List.mem_of_getElem? (i := 888) (by decide +kernel), List.mem_of_getElem? (i := 1094) (by decide +kernel), List.mem_of_getElem? (i := 1095) (by decide +kernel)⟩
theorem lw_p28 : lw_okq (⟨"LessonCardsModel", "chance", "(I)I"⟩, 48) := ⟨⟨by decide +kernel, by decide +kernel⟩, List.mem_of_getElem? (i := 888) (by decide +kernel), List.mem_of_getElem? (i := 1098) (by decide +kernel), List.mem_of_getElem? (i := 1099) (by decide +kernel)⟩
theorem lw_p29 : lw_okq (⟨"LessonCardsModel", "leanedOn", "(II)I"⟩, 48) := ⟨⟨by decide +kernel, by decide +kernel⟩, List.mem_of_getElem? (i := 888) (by decide +kernel), List.mem_of_getElem? (i := 1103) (by decide +kernel), List.mem_of_getElem? (i := 1104) (by decide +kernel)⟩
theorem lw_p30 : lw_okq (⟨"LessonCardsModel", "isKnown", "(II)Z"⟩, 48) := ⟨⟨by decide +kernel, by decide +kernel⟩, List.mem_of_getElem? (i := 888) (by decide +kernel), List.mem_of_getElem? (i := 1107) (by decide +kernel), List.mem_of_getElem? (i := 1108) (by decide +kernel)⟩
theorem lw_p31 : lw_okq (⟨"LessonCardsModel", "isKnownSide", "(III)Z"⟩, 48) := ⟨⟨by decide +kernel, by decide +kernel⟩, List.mem_of_getElem? (i := 888) (by decide +kernel), List.mem_of_getElem? (i := 1111) (by decide +kernel), List.mem_of_getElem? (i := 1112) (by decide +kernel)⟩
def lw_privs_2 : List (MethodName × Nat) := [(⟨"LessonCards$Evening", "putOn", "(II)V"⟩, 6), (⟨"LessonCards$LevelTest", "greatestBehind", "(IZ)J"⟩, 6), (⟨"LessonCards$LevelTest", "factorOf", "(IIZ)I"⟩, 6), (⟨"LessonCards$LevelTest", "isClear", "()Z"⟩, 6), (⟨"LessonCards", "retell", "(II)J"⟩, 11), (⟨"LessonCards", "retellOne", "(LLessonCards$Memory;LLessonCards$Entry;I)V"⟩, 11), (⟨"LessonCardsModel", "isCard", "(I)Z"⟩, 48), (⟨"LessonCardsModel", "leads", "(II)Z"⟩, 48), (⟨"LessonCardsModel", "dueSide", "(IIIZ)I"⟩, 48), (⟨"LessonCardsModel", "take", "(I)V"⟩, 48), (⟨"LessonCardsModel", "isDue", "(I)Z"⟩, 48), (⟨"LessonCardsModel", "isLeech", "()Z"⟩, 48), (⟨"LessonCardsModel", "chance", "(I)I"⟩, 48), (⟨"LessonCardsModel", "leanedOn", "(II)I"⟩, 48), (⟨"LessonCardsModel", "isKnown", "(II)Z"⟩, 48), (⟨"LessonCardsModel", "isKnownSide", "(III)Z"⟩, 48)]
theorem lw_r2 : ∀ q ∈ lw_privs_2, lw_okq q := List.forall_mem_cons.mpr ⟨lw_p16, List.forall_mem_cons.mpr ⟨lw_p17, List.forall_mem_cons.mpr ⟨lw_p18, List.forall_mem_cons.mpr ⟨lw_p19, List.forall_mem_cons.mpr ⟨lw_p20, List.forall_mem_cons.mpr ⟨lw_p21, List.forall_mem_cons.mpr ⟨lw_p22, List.forall_mem_cons.mpr ⟨lw_p23, List.forall_mem_cons.mpr ⟨lw_p24, List.forall_mem_cons.mpr ⟨lw_p25, List.forall_mem_cons.mpr ⟨lw_p26, List.forall_mem_cons.mpr ⟨lw_p27, List.forall_mem_cons.mpr ⟨lw_p28, List.forall_mem_cons.mpr ⟨lw_p29, List.forall_mem_cons.mpr ⟨lw_p30, List.forall_mem_cons.mpr ⟨lw_p31, fun _ h => absurd h List.not_mem_nil⟩⟩⟩⟩⟩⟩⟩⟩⟩⟩⟩⟩⟩⟩⟩⟩
theorem lw_p32 : lw_okq (⟨"LessonCardsModel", "answerBy", "(IIII)V"⟩, 48) := ⟨⟨by decide +kernel, by decide +kernel⟩, List.mem_of_getElem? (i := 888) (by decide +kernel), List.mem_of_getElem? (i := 1123) (by decide +kernel), List.mem_of_getElem? (i := 1124) (by decide +kernel)⟩
theorem lw_p33 : lw_okq (⟨"LessonCardsModel", "byStrengths", "(II)V"⟩, 48) := ⟨⟨by decide +kernel, by decide +kernel⟩, List.mem_of_getElem? (i := 888) (by decide +kernel), List.mem_of_getElem? (i := 1133) (by decide +kernel), List.mem_of_getElem? (i := 1134) (by decide +kernel)⟩
theorem lw_p34 : lw_okq (⟨"LessonCardsModel", "give", "(I)V"⟩, 48) := ⟨⟨by decide +kernel, by decide +kernel⟩, List.mem_of_getElem? (i := 888) (by decide +kernel), List.mem_of_getElem? (i := 1140) (by decide +kernel), List.mem_of_getElem? (i := 1141) (by decide +kernel)⟩
theorem lw_p35 : lw_okq (⟨"LessonCardsModel", "dropFirst", "(I)V"⟩, 48) := ⟨⟨by decide +kernel, by decide +kernel⟩, List.mem_of_getElem? (i := 888) (by decide +kernel), List.mem_of_getElem? (i := 1144) (by decide +kernel), List.mem_of_getElem? (i := 1145) (by decide +kernel)⟩
theorem lw_p36 : lw_okq (⟨"LessonCardsModel", "isSide", "(II)Z"⟩, 48) := ⟨⟨by decide +kernel, by decide +kernel⟩, List.mem_of_getElem? (i := 888) (by decide +kernel), List.mem_of_getElem? (i := 1156) (by decide +kernel), List.mem_of_getElem? (i := 1157) (by decide +kernel)⟩
theorem lw_p37 : lw_okq (⟨"LessonCardsModel", "firstDue", "(II)I"⟩, 48) := ⟨⟨by decide +kernel, by decide +kernel⟩, List.mem_of_getElem? (i := 888) (by decide +kernel), List.mem_of_getElem? (i := 1172) (by decide +kernel), List.mem_of_getElem? (i := 1173) (by decide +kernel)⟩
theorem lw_p38 : lw_okq (⟨"LessonCardsModel", "sidesThat", "(II)I"⟩, 48) := ⟨⟨by decide +kernel, by decide +kernel⟩, List.mem_of_getElem? (i := 888) (by decide +kernel), List.mem_of_getElem? (i := 1180) (by decide +kernel), List.mem_of_getElem? (i := 1181) (by decide +kernel)⟩
theorem lw_p39 : lw_okq (⟨"LessonCardsModel", "putAll", "(III)Z"⟩, 48) := ⟨⟨by decide +kernel, by decide +kernel⟩, List.mem_of_getElem? (i := 888) (by decide +kernel), List.mem_of_getElem? (i := 1201) (by decide +kernel), List.mem_of_getElem? (i := 1202) (by decide +kernel)⟩
theorem lw_p40 : lw_okq (⟨"LessonCardsModel", "bestQuestion", "()I"⟩, 48) := ⟨⟨by decide +kernel, by decide +kernel⟩, List.mem_of_getElem? (i := 888) (by decide +kernel), List.mem_of_getElem? (i := 1217) (by decide +kernel), List.mem_of_getElem? (i := 1218) (by decide +kernel)⟩
theorem lw_p41 : lw_okq (⟨"LessonCardsModel", "greatest", "(IZ)J"⟩, 48) := ⟨⟨by decide +kernel, by decide +kernel⟩, List.mem_of_getElem? (i := 888) (by decide +kernel), List.mem_of_getElem? (i := 1221) (by decide +kernel), List.mem_of_getElem? (i := 1222) (by decide +kernel)⟩
theorem lw_p42 : lw_okq (⟨"LessonCardsModel", "surpriseOf", "(II)J"⟩, 48) := ⟨⟨by decide +kernel, by decide +kernel⟩, List.mem_of_getElem? (i := 888) (by decide +kernel), List.mem_of_getElem? (i := 1251) (by decide +kernel), List.mem_of_getElem? (i := 1252) (by decide +kernel)⟩
theorem lw_p43 : lw_okq (⟨"LessonCardsModel", "replay", "(II)J"⟩, 48) := ⟨⟨by decide +kernel, by decide +kernel⟩, List.mem_of_getElem? (i := 888) (by decide +kernel), List.mem_of_getElem? (i := 1255) (by decide +kernel), List.mem_of_getElem? (i := 1256) (by decide +kernel)⟩
theorem lw_p44 : lw_okq (⟨"LessonCardsModel", "begin", "()V"⟩, 48) := ⟨⟨by decide +kernel, by decide +kernel⟩, List.mem_of_getElem? (i := 888) (by decide +kernel), List.mem_of_getElem? (i := 1259) (by decide +kernel), List.mem_of_getElem? (i := 1260) (by decide +kernel)⟩
def lw_privs_3 : List (MethodName × Nat) := [(⟨"LessonCardsModel", "answerBy", "(IIII)V"⟩, 48), (⟨"LessonCardsModel", "byStrengths", "(II)V"⟩, 48), (⟨"LessonCardsModel", "give", "(I)V"⟩, 48), (⟨"LessonCardsModel", "dropFirst", "(I)V"⟩, 48), (⟨"LessonCardsModel", "isSide", "(II)Z"⟩, 48), (⟨"LessonCardsModel", "firstDue", "(II)I"⟩, 48), (⟨"LessonCardsModel", "sidesThat", "(II)I"⟩, 48), (⟨"LessonCardsModel", "putAll", "(III)Z"⟩, 48), (⟨"LessonCardsModel", "bestQuestion", "()I"⟩, 48), (⟨"LessonCardsModel", "greatest", "(IZ)J"⟩, 48), (⟨"LessonCardsModel", "surpriseOf", "(II)J"⟩, 48), (⟨"LessonCardsModel", "replay", "(II)J"⟩, 48), (⟨"LessonCardsModel", "begin", "()V"⟩, 48)]
theorem lw_r3 : ∀ q ∈ lw_privs_3, lw_okq q := List.forall_mem_cons.mpr ⟨lw_p32, List.forall_mem_cons.mpr ⟨lw_p33, List.forall_mem_cons.mpr ⟨lw_p34, List.forall_mem_cons.mpr ⟨lw_p35, List.forall_mem_cons.mpr ⟨lw_p36, List.forall_mem_cons.mpr ⟨lw_p37, List.forall_mem_cons.mpr ⟨lw_p38, List.forall_mem_cons.mpr ⟨lw_p39, List.forall_mem_cons.mpr ⟨lw_p40, List.forall_mem_cons.mpr ⟨lw_p41, List.forall_mem_cons.mpr ⟨lw_p42, List.forall_mem_cons.mpr ⟨lw_p43, List.forall_mem_cons.mpr ⟨lw_p44, fun _ h => absurd h List.not_mem_nil⟩⟩⟩⟩⟩⟩⟩⟩⟩⟩⟩⟩⟩
def lw_privs : List (MethodName × Nat) := lw_privs_1 ++ (lw_privs_2 ++ (lw_privs_3))
def lw_tbl : List Cond := k2_sels lw_privs ++ tables_1
theorem lw_privs_ok : ∀ q ∈ lw_privs, lw_okq q := by
  show ∀ q ∈ lw_privs_1 ++ (lw_privs_2 ++ (lw_privs_3)), lw_okq q
  exact List.forall_mem_append.mpr ⟨lw_r1, List.forall_mem_append.mpr ⟨lw_r2, lw_r3⟩⟩
-- ===== end of PART A; then your names; then what follows =====
end
section
def RX0 : String := "LessonCards$Card"
def TX0 : u_T := fun k => match k with
  | 0 => ("LessonCards$Card", "leans", "[I", true)
  | _ => ("LessonCards$Card", "leanCount", "I", false)
def tyX0 : Nat → FieldType := fun k => match k with
  | 0 => .array .int
  | _ => .int
abbrev wsX00 : List Cond := u_ws RX0 TX0 2
theorem nmX0 : ∀ a, a < 2 → ∀ b, b < 2 → a ≠ b → (TX0 a).2.1 ≠ (TX0 b).2.1 := by decide +kernel
theorem tyX0_ok : ∀ k, k < 2 → parseFieldDescriptor (TX0 k).2.2.1 = some (tyX0 k) := by decide +kernel
abbrev cX0_init : ByteArray := prog_2_method_1_code
def yX0_init : MethodName := ⟨RX0, "<init>", "()V"⟩
abbrev cX0_leansOn : ByteArray := prog_2_method_2_code
def yX0_leansOn : MethodName := ⟨RX0, "leansOn", "(I)Z"⟩
abbrev cX0_addLean : ByteArray := prog_2_method_3_code
def yX0_addLean : MethodName := ⟨RX0, "addLean", "(I)I"⟩
def RX1 : String := "LessonCards$Curve"
def TX1 : u_T := fun k => match k with
  | 0 => ("LessonCards$Curve", "chances", "[I", true)
  | _ => ("LessonCards$Curve", "dueStep", "I", true)
def tyX1 : Nat → FieldType := fun k => match k with
  | 0 => .array .int
  | _ => .int
abbrev wsX10 : List Cond := u_ws RX1 TX1 2
theorem nmX1 : ∀ a, a < 2 → ∀ b, b < 2 → a ≠ b → (TX1 a).2.1 ≠ (TX1 b).2.1 := by decide +kernel
theorem tyX1_ok : ∀ k, k < 2 → parseFieldDescriptor (TX1 k).2.2.1 = some (tyX1 k) := by decide +kernel
abbrev cX1_init : ByteArray := prog_3_method_1_code
def yX1_init : MethodName := ⟨RX1, "<init>", "()V"⟩
abbrev cX1_chanceAt : ByteArray := prog_3_method_2_code
def yX1_chanceAt : MethodName := ⟨RX1, "chanceAt", "(I)I"⟩
def RX2 : String := "LessonCards$Deck"
def TX2 : u_T := fun k => match k with
  | 0 => ("LessonCards$Deck", "cards", "Ljava/util/ArrayList;", true)
  | 1 => ("LessonCards$Deck", "reached", "[I", true)
  | _ => ("LessonCards$Deck", "isReached", "[Z", true)
def tyX2 : Nat → FieldType := fun k => match k with
  | 0 => .object "java/util/ArrayList"
  | 1 => .array .int
  | _ => .array .boolean
abbrev wsX20 : List Cond := u_ws RX2 TX2 3
theorem nmX2 : ∀ a, a < 3 → ∀ b, b < 3 → a ≠ b → (TX2 a).2.1 ≠ (TX2 b).2.1 := by decide +kernel
theorem tyX2_ok : ∀ k, k < 3 → parseFieldDescriptor (TX2 k).2.2.1 = some (tyX2 k) := by decide +kernel
abbrev cX2_init : ByteArray := prog_4_method_1_code
def yX2_init : MethodName := ⟨RX2, "<init>", "()V"⟩
abbrev cX2_size : ByteArray := prog_4_method_2_code
def yX2_size : MethodName := ⟨RX2, "size", "()I"⟩
abbrev cX2_addCard : ByteArray := prog_4_method_3_code
def yX2_addCard : MethodName := ⟨RX2, "addCard", "()I"⟩
abbrev cX2_cardAt : ByteArray := prog_4_method_4_code
def yX2_cardAt : MethodName := ⟨RX2, "cardAt", "(I)LLessonCards$Card;"⟩
abbrev cX2_leadsTo : ByteArray := prog_4_method_5_code
def yX2_leadsTo : MethodName := ⟨RX2, "leadsTo", "(II)Z"⟩
abbrev cX2_reach : ByteArray := prog_4_method_6_code
def yX2_reach : MethodName := ⟨RX2, "reach", "(II)I"⟩
def RX3 : String := "LessonCards$Entry"
def TX3 : u_T := fun k => match k with
  | 0 => ("LessonCards$Entry", "pupil", "I", true)
  | 1 => ("LessonCards$Entry", "place", "I", true)
  | 2 => ("LessonCards$Entry", "day", "I", true)
  | 3 => ("LessonCards$Entry", "answer", "I", true)
  | 4 => ("LessonCards$Entry", "rule", "I", true)
  | 5 => ("LessonCards$Entry", "number", "I", true)
  | _ => ("LessonCards$Entry", "before", "LLessonCards$Memory;", true)
def tyX3 : Nat → FieldType := fun k => match k with
  | 0 => .int
  | 1 => .int
  | 2 => .int
  | 3 => .int
  | 4 => .int
  | 5 => .int
  | _ => .object "LessonCards$Memory"
abbrev wsX30 : List Cond := u_ws RX3 TX3 7
theorem nmX3 : ∀ a, a < 7 → ∀ b, b < 7 → a ≠ b → (TX3 a).2.1 ≠ (TX3 b).2.1 := by decide +kernel
theorem tyX3_ok : ∀ k, k < 7 → parseFieldDescriptor (TX3 k).2.2.1 = some (tyX3 k) := by decide +kernel
abbrev cX3_init : ByteArray := prog_5_method_1_code
def yX3_init : MethodName := ⟨RX3, "<init>", "(IIIIIILLessonCards$Memory;)V"⟩
abbrev cX3_tell : ByteArray := prog_5_method_2_code
def yX3_tell : MethodName := ⟨RX3, "tell", "(I)I"⟩
def RX4 : String := "LessonCards$Evening"
def TX4 : u_T := fun k => match k with
  | 0 => ("LessonCards$Evening", "places", "[I", true)
  | 1 => ("LessonCards$Evening", "firstDays", "[I", true)
  | 2 => ("LessonCards$Evening", "count", "I", false)
  | 3 => ("LessonCards$Evening", "days", "[I", true)
  | 4 => ("LessonCards$Evening", "loads", "[I", true)
  | _ => ("LessonCards$Evening", "made", "Z", false)
def tyX4 : Nat → FieldType := fun k => match k with
  | 0 => .array .int
  | 1 => .array .int
  | 2 => .int
  | 3 => .array .int
  | 4 => .array .int
  | _ => .boolean
abbrev wsX40 : List Cond := u_ws RX4 TX4 6
theorem nmX4 : ∀ a, a < 6 → ∀ b, b < 6 → a ≠ b → (TX4 a).2.1 ≠ (TX4 b).2.1 := by decide +kernel
theorem tyX4_ok : ∀ k, k < 6 → parseFieldDescriptor (TX4 k).2.2.1 = some (tyX4 k) := by decide +kernel
abbrev cX4_init : ByteArray := prog_6_method_1_code
def yX4_init : MethodName := ⟨RX4, "<init>", "()V"⟩
abbrev cX4_gather : ByteArray := prog_6_method_2_code
def yX4_gather : MethodName := ⟨RX4, "gather", "(LLessonCards$Learner;LLessonCards$Curve;)V"⟩
abbrev cX4_addSide : ByteArray := prog_6_method_3_code
def yX4_addSide : MethodName := ⟨RX4, "addSide", "(II)V"⟩
abbrev cX4_leastGreatest : ByteArray := prog_6_method_4_code
def yX4_leastGreatest : MethodName := ⟨RX4, "leastGreatest", "(I)I"⟩
abbrev cX4_fits : ByteArray := prog_6_method_5_code
def yX4_fits : MethodName := ⟨RX4, "fits", "(II)Z"⟩
abbrev cX4_putOn : ByteArray := prog_6_method_6_code
def yX4_putOn : MethodName := ⟨RX4, "putOn", "(II)V"⟩
abbrev cX4_loadOn : ByteArray := prog_6_method_7_code
def yX4_loadOn : MethodName := ⟨RX4, "loadOn", "(I)I"⟩
abbrev cX4_dayOf : ByteArray := prog_6_method_8_code
def yX4_dayOf : MethodName := ⟨RX4, "dayOf", "(I)I"⟩
def RX5 : String := "LessonCards$Hand"
def TX5 : u_T := fun k => match k with
  | _ => ("LessonCards$Hand", "memories", "[LLessonCards$Memory;", true)
def tyX5 : Nat → FieldType := fun k => match k with
  | _ => .array (.object "LessonCards$Memory")
abbrev wsX50 : List Cond := u_ws RX5 TX5 1
theorem nmX5 : ∀ a, a < 1 → ∀ b, b < 1 → a ≠ b → (TX5 a).2.1 ≠ (TX5 b).2.1 := by decide +kernel
theorem tyX5_ok : ∀ k, k < 1 → parseFieldDescriptor (TX5 k).2.2.1 = some (tyX5 k) := by decide +kernel
abbrev cX5_init : ByteArray := prog_7_method_1_code
def yX5_init : MethodName := ⟨RX5, "<init>", "(I)V"⟩
abbrev cX5_memoryAt : ByteArray := prog_7_method_2_code
def yX5_memoryAt : MethodName := ⟨RX5, "memoryAt", "(I)LLessonCards$Memory;"⟩
abbrev cX5_become : ByteArray := prog_7_method_3_code
def yX5_become : MethodName := ⟨RX5, "become", "(LLessonCards$Hand;)V"⟩
abbrev cX5_forgetAll : ByteArray := prog_7_method_4_code
def yX5_forgetAll : MethodName := ⟨RX5, "forgetAll", "()V"⟩
abbrev cX5_forgetToday : ByteArray := prog_7_method_5_code
def yX5_forgetToday : MethodName := ⟨RX5, "forgetToday", "()V"⟩
abbrev cX5_isLike : ByteArray := prog_7_method_6_code
def yX5_isLike : MethodName := ⟨RX5, "isLike", "(LLessonCards$Hand;)Z"⟩
abbrev cX5_isKnown : ByteArray := prog_7_method_7_code
def yX5_isKnown : MethodName := ⟨RX5, "isKnown", "(ILLessonCards$Curve;)Z"⟩
abbrev cX5_countSides : ByteArray := prog_7_method_8_code
def yX5_countSides : MethodName := ⟨RX5, "countSides", "(IILLessonCards$Curve;)I"⟩
abbrev cX5_mostUrgent : ByteArray := prog_7_method_9_code
def yX5_mostUrgent : MethodName := ⟨RX5, "mostUrgent", "(ILLessonCards$Curve;)I"⟩
abbrev cX5_firstFresh : ByteArray := prog_7_method_10_code
def yX5_firstFresh : MethodName := ⟨RX5, "firstFresh", "()I"⟩
def RX6 : String := "LessonCards$Learner"
def TX6 : u_T := fun k => match k with
  | 0 => ("LessonCards$Learner", "hands", "Ljava/util/ArrayList;", true)
  | 1 => ("LessonCards$Learner", "row", "[I", true)
  | 2 => ("LessonCards$Learner", "rowSize", "I", false)
  | _ => ("LessonCards$Learner", "today", "I", false)
def tyX6 : Nat → FieldType := fun k => match k with
  | 0 => .object "java/util/ArrayList"
  | 1 => .array .int
  | 2 => .int
  | _ => .int
abbrev wsX60 : List Cond := u_ws RX6 TX6 4
theorem nmX6 : ∀ a, a < 4 → ∀ b, b < 4 → a ≠ b → (TX6 a).2.1 ≠ (TX6 b).2.1 := by decide +kernel
theorem tyX6_ok : ∀ k, k < 4 → parseFieldDescriptor (TX6 k).2.2.1 = some (tyX6 k) := by decide +kernel
abbrev cX6_init : ByteArray := prog_8_method_1_code
def yX6_init : MethodName := ⟨RX6, "<init>", "()V"⟩
abbrev cX6_addCard : ByteArray := prog_8_method_2_code
def yX6_addCard : MethodName := ⟨RX6, "addCard", "(I)V"⟩
abbrev cX6_handAt : ByteArray := prog_8_method_3_code
def yX6_handAt : MethodName := ⟨RX6, "handAt", "(I)LLessonCards$Hand;"⟩
abbrev cX6_memoryOf : ByteArray := prog_8_method_4_code
def yX6_memoryOf : MethodName := ⟨RX6, "memoryOf", "(II)LLessonCards$Memory;"⟩
abbrev cX6_memoryAt : ByteArray := prog_8_method_5_code
def yX6_memoryAt : MethodName := ⟨RX6, "memoryAt", "(I)LLessonCards$Memory;"⟩
abbrev cX6_beginDay : ByteArray := prog_8_method_6_code
def yX6_beginDay : MethodName := ⟨RX6, "beginDay", "(I)V"⟩
abbrev cX6_forgetAll : ByteArray := prog_8_method_7_code
def yX6_forgetAll : MethodName := ⟨RX6, "forgetAll", "()V"⟩
abbrev cX6_isLike : ByteArray := prog_8_method_8_code
def yX6_isLike : MethodName := ⟨RX6, "isLike", "(LLessonCards$Learner;)Z"⟩
abbrev cX6_countKnown : ByteArray := prog_8_method_9_code
def yX6_countKnown : MethodName := ⟨RX6, "countKnown", "(LLessonCards$Curve;)I"⟩
abbrev cX6_countSides : ByteArray := prog_8_method_10_code
def yX6_countSides : MethodName := ⟨RX6, "countSides", "(ILLessonCards$Curve;)I"⟩
abbrev cX6_first : ByteArray := prog_8_method_11_code
def yX6_first : MethodName := ⟨RX6, "first", "()I"⟩
abbrev cX6_append : ByteArray := prog_8_method_12_code
def yX6_append : MethodName := ⟨RX6, "append", "(I)V"⟩
abbrev cX6_dropFirst : ByteArray := prog_8_method_13_code
def yX6_dropFirst : MethodName := ⟨RX6, "dropFirst", "()V"⟩
abbrev cX6_drop : ByteArray := prog_8_method_14_code
def yX6_drop : MethodName := ⟨RX6, "drop", "(I)V"⟩
abbrev cX6_hasCard : ByteArray := prog_8_method_15_code
def yX6_hasCard : MethodName := ⟨RX6, "hasCard", "(I)Z"⟩
abbrev cX6_askDue : ByteArray := prog_8_method_16_code
def yX6_askDue : MethodName := ⟨RX6, "askDue", "(ILLessonCards$Curve;)V"⟩
abbrev cX6_sinkLast : ByteArray := prog_8_method_17_code
def yX6_sinkLast : MethodName := ⟨RX6, "sinkLast", "(LLessonCards$Curve;)V"⟩
abbrev cX6_chanceAt : ByteArray := prog_8_method_18_code
def yX6_chanceAt : MethodName := ⟨RX6, "chanceAt", "(ILLessonCards$Curve;)I"⟩
abbrev cX6_askFresh : ByteArray := prog_8_method_19_code
def yX6_askFresh : MethodName := ⟨RX6, "askFresh", "(ILLessonCards$Deck;LLessonCards$Curve;)V"⟩
abbrev cX6_isReady : ByteArray := prog_8_method_20_code
def yX6_isReady : MethodName := ⟨RX6, "isReady", "(LLessonCards$Card;LLessonCards$Curve;)Z"⟩
def RX7 : String := "LessonCards$LevelTest"
def TX7 : u_T := fun k => match k with
  | 0 => ("LessonCards$LevelTest", "weights", "[J", true)
  | 1 => ("LessonCards$LevelTest", "levels", "I", false)
  | 2 => ("LessonCards$LevelTest", "slip", "I", false)
  | 3 => ("LessonCards$LevelTest", "guess", "I", false)
  | 4 => ("LessonCards$LevelTest", "asked", "I", false)
  | _ => ("LessonCards$LevelTest", "over", "Z", false)
def tyX7 : Nat → FieldType := fun k => match k with
  | 0 => .array .long
  | 1 => .int
  | 2 => .int
  | 3 => .int
  | 4 => .int
  | _ => .boolean
abbrev wsX70 : List Cond := u_ws RX7 TX7 6
theorem nmX7 : ∀ a, a < 6 → ∀ b, b < 6 → a ≠ b → (TX7 a).2.1 ≠ (TX7 b).2.1 := by decide +kernel
theorem tyX7_ok : ∀ k, k < 6 → parseFieldDescriptor (TX7 k).2.2.1 = some (tyX7 k) := by decide +kernel
abbrev cX7_init : ByteArray := prog_9_method_1_code
def yX7_init : MethodName := ⟨RX7, "<init>", "()V"⟩
abbrev cX7_begin : ByteArray := prog_9_method_2_code
def yX7_begin : MethodName := ⟨RX7, "begin", "(III)V"⟩
abbrev cX7_weightOf : ByteArray := prog_9_method_3_code
def yX7_weightOf : MethodName := ⟨RX7, "weightOf", "(I)J"⟩
abbrev cX7_likeliest : ByteArray := prog_9_method_4_code
def yX7_likeliest : MethodName := ⟨RX7, "likeliest", "()I"⟩
abbrev cX7_bestQuestion : ByteArray := prog_9_method_5_code
def yX7_bestQuestion : MethodName := ⟨RX7, "bestQuestion", "()I"⟩
abbrev cX7_greatestBehind : ByteArray := prog_9_method_6_code
def yX7_greatestBehind : MethodName := ⟨RX7, "greatestBehind", "(IZ)J"⟩
abbrev cX7_factorOf : ByteArray := prog_9_method_7_code
def yX7_factorOf : MethodName := ⟨RX7, "factorOf", "(IIZ)I"⟩
abbrev cX7_hear : ByteArray := prog_9_method_8_code
def yX7_hear : MethodName := ⟨RX7, "hear", "(IZ)V"⟩
abbrev cX7_commonDivisor : ByteArray := prog_9_method_9_code
def yX7_commonDivisor : MethodName := ⟨RX7, "commonDivisor", "(JJ)J"⟩
abbrev cX7_isClear : ByteArray := prog_9_method_10_code
def yX7_isClear : MethodName := ⟨RX7, "isClear", "()Z"⟩
def RX8 : String := "LessonCards$Memory"
def TX8 : u_T := fun k => match k with
  | 0 => ("LessonCards$Memory", "strength", "I", false)
  | 1 => ("LessonCards$Memory", "ease", "I", false)
  | 2 => ("LessonCards$Memory", "box", "I", false)
  | 3 => ("LessonCards$Memory", "day", "I", false)
  | 4 => ("LessonCards$Memory", "agains", "I", false)
  | 5 => ("LessonCards$Memory", "buried", "Z", false)
  | _ => ("LessonCards$Memory", "backs", "I", false)
def tyX8 : Nat → FieldType := fun k => match k with
  | 0 => .int
  | 1 => .int
  | 2 => .int
  | 3 => .int
  | 4 => .int
  | 5 => .boolean
  | _ => .int
abbrev wsX80 : List Cond := u_ws RX8 TX8 7
theorem nmX8 : ∀ a, a < 7 → ∀ b, b < 7 → a ≠ b → (TX8 a).2.1 ≠ (TX8 b).2.1 := by decide +kernel
theorem tyX8_ok : ∀ k, k < 7 → parseFieldDescriptor (TX8 k).2.2.1 = some (tyX8 k) := by decide +kernel
abbrev cX8_init : ByteArray := prog_10_method_1_code
def yX8_init : MethodName := ⟨RX8, "<init>", "()V"⟩
abbrev cX8_copy : ByteArray := prog_10_method_2_code
def yX8_copy : MethodName := ⟨RX8, "copy", "()LLessonCards$Memory;"⟩
abbrev cX8_become : ByteArray := prog_10_method_3_code
def yX8_become : MethodName := ⟨RX8, "become", "(LLessonCards$Memory;)V"⟩
abbrev cX8_forget : ByteArray := prog_10_method_4_code
def yX8_forget : MethodName := ⟨RX8, "forget", "()V"⟩
abbrev cX8_forgetToday : ByteArray := prog_10_method_5_code
def yX8_forgetToday : MethodName := ⟨RX8, "forgetToday", "()V"⟩
abbrev cX8_isLike : ByteArray := prog_10_method_6_code
def yX8_isLike : MethodName := ⟨RX8, "isLike", "(LLessonCards$Memory;)Z"⟩
abbrev cX8_isFresh : ByteArray := prog_10_method_7_code
def yX8_isFresh : MethodName := ⟨RX8, "isFresh", "()Z"⟩
abbrev cX8_isLeech : ByteArray := prog_10_method_8_code
def yX8_isLeech : MethodName := ⟨RX8, "isLeech", "()Z"⟩
abbrev cX8_isToCome : ByteArray := prog_10_method_9_code
def yX8_isToCome : MethodName := ⟨RX8, "isToCome", "()Z"⟩
abbrev cX8_chanceOn : ByteArray := prog_10_method_10_code
def yX8_chanceOn : MethodName := ⟨RX8, "chanceOn", "(ILLessonCards$Curve;)I"⟩
abbrev cX8_isDue : ByteArray := prog_10_method_11_code
def yX8_isDue : MethodName := ⟨RX8, "isDue", "(ILLessonCards$Curve;)Z"⟩
abbrev cX8_isKnown : ByteArray := prog_10_method_12_code
def yX8_isKnown : MethodName := ⟨RX8, "isKnown", "(ILLessonCards$Curve;)Z"⟩
abbrev cX8_isOfKind : ByteArray := prog_10_method_13_code
def yX8_isOfKind : MethodName := ⟨RX8, "isOfKind", "(IILLessonCards$Curve;)Z"⟩
abbrev cX8_firstDue : ByteArray := prog_10_method_14_code
def yX8_firstDue : MethodName := ⟨RX8, "firstDue", "(ILLessonCards$Curve;)I"⟩
abbrev cX8_tell : ByteArray := prog_10_method_15_code
def yX8_tell : MethodName := ⟨RX8, "tell", "(I)I"⟩
abbrev cX8_tellOn : ByteArray := prog_10_method_16_code
def yX8_tellOn : MethodName := ⟨RX8, "tellOn", "(IILLessonCards$Curve;)I"⟩
abbrev cX8_comesBack : ByteArray := prog_10_method_17_code
def yX8_comesBack : MethodName := ⟨RX8, "comesBack", "()Z"⟩
abbrev cX8_move : ByteArray := prog_10_method_18_code
def yX8_move : MethodName := ⟨RX8, "move", "(IIIILLessonCards$Curve;)V"⟩
abbrev cX8_moveByBoxes : ByteArray := prog_10_method_19_code
def yX8_moveByBoxes : MethodName := ⟨RX8, "moveByBoxes", "(I)V"⟩
abbrev cX8_moveByStrengths : ByteArray := prog_10_method_20_code
def yX8_moveByStrengths : MethodName := ⟨RX8, "moveByStrengths", "(II)V"⟩
abbrev cX8_firstStrength : ByteArray := prog_10_method_21_code
def yX8_firstStrength : MethodName := ⟨RX8, "firstStrength", "(I)I"⟩
abbrev cX8_boundedStrength : ByteArray := prog_10_method_22_code
def yX8_boundedStrength : MethodName := ⟨RX8, "boundedStrength", "(J)I"⟩
abbrev cX8_boundedEase : ByteArray := prog_10_method_23_code
def yX8_boundedEase : MethodName := ⟨RX8, "boundedEase", "(I)I"⟩
def RX9 : String := "LessonCards"
def TX9 : u_T := fun k => match k with
  | 0 => ("LessonCards", "curve", "LLessonCards$Curve;", true)
  | 1 => ("LessonCards", "deck", "LLessonCards$Deck;", true)
  | 2 => ("LessonCards", "learners", "[LLessonCards$Learner;", true)
  | 3 => ("LessonCards", "shadow", "LLessonCards$Learner;", true)
  | 4 => ("LessonCards", "entries", "Ljava/util/ArrayList;", true)
  | 5 => ("LessonCards", "evening", "LLessonCards$Evening;", true)
  | 6 => ("LessonCards", "levelTest", "LLessonCards$LevelTest;", true)
  | 7 => ("LessonCards", "numbers", "[I", true)
  | 8 => ("LessonCards", "ruleNow", "I", false)
  | 9 => ("LessonCards", "mostDue", "I", false)
  | _ => ("LessonCards", "mostNew", "I", false)
def tyX9 : Nat → FieldType := fun k => match k with
  | 0 => .object "LessonCards$Curve"
  | 1 => .object "LessonCards$Deck"
  | 2 => .array (.object "LessonCards$Learner")
  | 3 => .object "LessonCards$Learner"
  | 4 => .object "java/util/ArrayList"
  | 5 => .object "LessonCards$Evening"
  | 6 => .object "LessonCards$LevelTest"
  | 7 => .array .int
  | 8 => .int
  | 9 => .int
  | _ => .int
abbrev wsX90 : List Cond := u_ws RX9 TX9 11
theorem nmX9 : ∀ a, a < 11 → ∀ b, b < 11 → a ≠ b → (TX9 a).2.1 ≠ (TX9 b).2.1 := by decide +kernel
theorem tyX9_ok : ∀ k, k < 11 → parseFieldDescriptor (TX9 k).2.2.1 = some (tyX9 k) := by decide +kernel
abbrev cX9_init : ByteArray := prog_1_method_1_code
def yX9_init : MethodName := ⟨RX9, "<init>", "()V"⟩
abbrev cX9_card : ByteArray := prog_1_method_2_code
def yX9_card : MethodName := ⟨RX9, "card", "(I)I"⟩
abbrev cX9_lean : ByteArray := prog_1_method_3_code
def yX9_lean : MethodName := ⟨RX9, "lean", "(II)I"⟩
abbrev cX9_rule : ByteArray := prog_1_method_4_code
def yX9_rule : MethodName := ⟨RX9, "rule", "(I)I"⟩
abbrev cX9_table : ByteArray := prog_1_method_5_code
def yX9_table : MethodName := ⟨RX9, "table", "(II)I"⟩
abbrev cX9_most : ByteArray := prog_1_method_6_code
def yX9_most : MethodName := ⟨RX9, "most", "(II)I"⟩
abbrev cX9_day : ByteArray := prog_1_method_7_code
def yX9_day : MethodName := ⟨RX9, "day", "(II)I"⟩
abbrev cX9_start : ByteArray := prog_1_method_8_code
def yX9_start : MethodName := ⟨RX9, "start", "(I)I"⟩
abbrev cX9_next : ByteArray := prog_1_method_9_code
def yX9_next : MethodName := ⟨RX9, "next", "(I)I"⟩
abbrev cX9_answer : ByteArray := prog_1_method_10_code
def yX9_answer : MethodName := ⟨RX9, "answer", "(II)I"⟩
abbrev cX9_skip : ByteArray := prog_1_method_11_code
def yX9_skip : MethodName := ⟨RX9, "skip", "(I)I"⟩
abbrev cX9_bury : ByteArray := prog_1_method_12_code
def yX9_bury : MethodName := ⟨RX9, "bury", "(III)I"⟩
abbrev cX9_undo : ByteArray := prog_1_method_13_code
def yX9_undo : MethodName := ⟨RX9, "undo", "()I"⟩
abbrev cX9_memory : ByteArray := prog_1_method_14_code
def yX9_memory : MethodName := ⟨RX9, "memory", "(IIII)I"⟩
abbrev cX9_when : ByteArray := prog_1_method_15_code
def yX9_when : MethodName := ⟨RX9, "when", "(III)I"⟩
abbrev cX9_pupil : ByteArray := prog_1_method_16_code
def yX9_pupil : MethodName := ⟨RX9, "pupil", "(II)I"⟩
abbrev cX9_known : ByteArray := prog_1_method_17_code
def yX9_known : MethodName := ⟨RX9, "known", "(II)I"⟩
abbrev cX9_mean : ByteArray := prog_1_method_18_code
def yX9_mean : MethodName := ⟨RX9, "mean", "(II)I"⟩
abbrev cX9_plan : ByteArray := prog_1_method_19_code
def yX9_plan : MethodName := ⟨RX9, "plan", "(II)I"⟩
abbrev cX9_even : ByteArray := prog_1_method_20_code
def yX9_even : MethodName := ⟨RX9, "even", "(II)I"⟩
abbrev cX9_load : ByteArray := prog_1_method_21_code
def yX9_load : MethodName := ⟨RX9, "load", "(I)I"⟩
abbrev cX9_put : ByteArray := prog_1_method_22_code
def yX9_put : MethodName := ⟨RX9, "put", "(II)I"⟩
abbrev cX9_test : ByteArray := prog_1_method_23_code
def yX9_test : MethodName := ⟨RX9, "test", "(III)I"⟩
abbrev cX9_told : ByteArray := prog_1_method_24_code
def yX9_told : MethodName := ⟨RX9, "told", "(II)I"⟩
abbrev cX9_weight : ByteArray := prog_1_method_25_code
def yX9_weight : MethodName := ⟨RX9, "weight", "(I)J"⟩
abbrev cX9_level : ByteArray := prog_1_method_26_code
def yX9_level : MethodName := ⟨RX9, "level", "()I"⟩
abbrev cX9_log : ByteArray := prog_1_method_27_code
def yX9_log : MethodName := ⟨RX9, "log", "()I"⟩
abbrev cX9_logged : ByteArray := prog_1_method_28_code
def yX9_logged : MethodName := ⟨RX9, "logged", "(II)I"⟩
abbrev cX9_surprise : ByteArray := prog_1_method_29_code
def yX9_surprise : MethodName := ⟨RX9, "surprise", "(II)J"⟩
abbrev cX9_better : ByteArray := prog_1_method_30_code
def yX9_better : MethodName := ⟨RX9, "better", "(I)I"⟩
abbrev cX9_other : ByteArray := prog_1_method_31_code
def yX9_other : MethodName := ⟨RX9, "other", "(IIII)I"⟩
abbrev cX9_check : ByteArray := prog_1_method_32_code
def yX9_check : MethodName := ⟨RX9, "check", "(I)I"⟩
abbrev cX9_isRule : ByteArray := prog_1_method_33_code
def yX9_isRule : MethodName := ⟨RX9, "isRule", "(I)Z"⟩
abbrev cX9_isAnswer : ByteArray := prog_1_method_34_code
def yX9_isAnswer : MethodName := ⟨RX9, "isAnswer", "(I)Z"⟩
abbrev cX9_placeOf : ByteArray := prog_1_method_35_code
def yX9_placeOf : MethodName := ⟨RX9, "placeOf", "(II)I"⟩
abbrev cX9_learnerAt : ByteArray := prog_1_method_36_code
def yX9_learnerAt : MethodName := ⟨RX9, "learnerAt", "(I)LLessonCards$Learner;"⟩
abbrev cX9_memoryOf : ByteArray := prog_1_method_37_code
def yX9_memoryOf : MethodName := ⟨RX9, "memoryOf", "(III)LLessonCards$Memory;"⟩
abbrev cX9_isAskedOn : ByteArray := prog_1_method_38_code
def yX9_isAskedOn : MethodName := ⟨RX9, "isAskedOn", "(LLessonCards$Hand;II)Z"⟩
abbrev cX9_retell : ByteArray := prog_1_method_39_code
def yX9_retell : MethodName := ⟨RX9, "retell", "(II)J"⟩
abbrev cX9_retellOne : ByteArray := prog_1_method_40_code
def yX9_retellOne : MethodName := ⟨RX9, "retellOne", "(LLessonCards$Memory;LLessonCards$Entry;I)V"⟩
def RX10 : String := "LessonCardsModel"
def TX10 : u_T := fun k => match k with
  | 0 => ("LessonCardsModel", "sides", "[I", true)
  | 1 => ("LessonCardsModel", "leans", "[I", true)
  | 2 => ("LessonCardsModel", "leanMany", "[I", true)
  | 3 => ("LessonCardsModel", "cards", "I", false)
  | 4 => ("LessonCardsModel", "rule", "I", false)
  | 5 => ("LessonCardsModel", "table", "[I", true)
  | 6 => ("LessonCardsModel", "mostDue", "I", false)
  | 7 => ("LessonCardsModel", "mostNew", "I", false)
  | 8 => ("LessonCardsModel", "today", "[I", true)
  | 9 => ("LessonCardsModel", "row", "[I", true)
  | 10 => ("LessonCardsModel", "rowMany", "[I", true)
  | 11 => ("LessonCardsModel", "again", "[I", true)
  | 12 => ("LessonCardsModel", "buried", "[Z", true)
  | 13 => ("LessonCardsModel", "strength", "[I", true)
  | 14 => ("LessonCardsModel", "ease", "[I", true)
  | 15 => ("LessonCardsModel", "box", "[I", true)
  | 16 => ("LessonCardsModel", "day", "[I", true)
  | 17 => ("LessonCardsModel", "agains", "[I", true)
  | 18 => ("LessonCardsModel", "logOf", "[I", true)
  | 19 => ("LessonCardsModel", "logDay", "[I", true)
  | 20 => ("LessonCardsModel", "logAnswer", "[I", true)
  | 21 => ("LessonCardsModel", "logRule", "[I", true)
  | 22 => ("LessonCardsModel", "logTable", "[I", true)
  | 23 => ("LessonCardsModel", "wasStrength", "[I", true)
  | 24 => ("LessonCardsModel", "wasEase", "[I", true)
  | 25 => ("LessonCardsModel", "wasBox", "[I", true)
  | 26 => ("LessonCardsModel", "wasDay", "[I", true)
  | 27 => ("LessonCardsModel", "wasAgains", "[I", true)
  | 28 => ("LessonCardsModel", "log", "I", false)
  | 29 => ("LessonCardsModel", "mStrength", "I", false)
  | 30 => ("LessonCardsModel", "mEase", "I", false)
  | 31 => ("LessonCardsModel", "mBox", "I", false)
  | 32 => ("LessonCardsModel", "mDay", "I", false)
  | 33 => ("LessonCardsModel", "mAgains", "I", false)
  | 34 => ("LessonCardsModel", "first", "[I", true)
  | 35 => ("LessonCardsModel", "putOn", "[I", true)
  | 36 => ("LessonCardsModel", "load", "[I", true)
  | 37 => ("LessonCardsModel", "hasEven", "Z", false)
  | 38 => ("LessonCardsModel", "weight", "[J", true)
  | 39 => ("LessonCardsModel", "levels", "I", false)
  | 40 => ("LessonCardsModel", "slip", "I", false)
  | 41 => ("LessonCardsModel", "guess", "I", false)
  | 42 => ("LessonCardsModel", "told", "I", false)
  | 43 => ("LessonCardsModel", "isOver", "Z", false)
  | 44 => ("LessonCardsModel", "comeTo", "[Z", true)
  | 45 => ("LessonCardsModel", "leastChance", "I", false)
  | 46 => ("LessonCardsModel", "chances", "[I", true)
  | _ => ("LessonCardsModel", "planKept", "[I", true)
def tyX10 : Nat → FieldType := fun k => match k with
  | 0 => .array .int
  | 1 => .array .int
  | 2 => .array .int
  | 3 => .int
  | 4 => .int
  | 5 => .array .int
  | 6 => .int
  | 7 => .int
  | 8 => .array .int
  | 9 => .array .int
  | 10 => .array .int
  | 11 => .array .int
  | 12 => .array .boolean
  | 13 => .array .int
  | 14 => .array .int
  | 15 => .array .int
  | 16 => .array .int
  | 17 => .array .int
  | 18 => .array .int
  | 19 => .array .int
  | 20 => .array .int
  | 21 => .array .int
  | 22 => .array .int
  | 23 => .array .int
  | 24 => .array .int
  | 25 => .array .int
  | 26 => .array .int
  | 27 => .array .int
  | 28 => .int
  | 29 => .int
  | 30 => .int
  | 31 => .int
  | 32 => .int
  | 33 => .int
  | 34 => .array .int
  | 35 => .array .int
  | 36 => .array .int
  | 37 => .boolean
  | 38 => .array .long
  | 39 => .int
  | 40 => .int
  | 41 => .int
  | 42 => .int
  | 43 => .boolean
  | 44 => .array .boolean
  | 45 => .int
  | 46 => .array .int
  | _ => .array .int
abbrev wsX100 : List Cond := u_ws RX10 TX10 48
theorem nmX10 : ∀ a, a < 48 → ∀ b, b < 48 → a ≠ b → (TX10 a).2.1 ≠ (TX10 b).2.1 := by decide +kernel
theorem tyX10_ok : ∀ k, k < 48 → parseFieldDescriptor (TX10 k).2.2.1 = some (tyX10 k) := by decide +kernel
abbrev cX10_init : ByteArray := prog_12_method_1_code
def yX10_init : MethodName := ⟨RX10, "<init>", "()V"⟩
abbrev cX10_within : ByteArray := prog_12_method_2_code
def yX10_within : MethodName := ⟨RX10, "within", "(III)Z"⟩
abbrev cX10_isPupil : ByteArray := prog_12_method_3_code
def yX10_isPupil : MethodName := ⟨RX10, "isPupil", "(I)Z"⟩
abbrev cX10_isCard : ByteArray := prog_12_method_4_code
def yX10_isCard : MethodName := ⟨RX10, "isCard", "(I)Z"⟩
abbrev cX10_isSide : ByteArray := prog_12_method_5_code
def yX10_isSide : MethodName := ⟨RX10, "isSide", "(II)Z"⟩
abbrev cX10_card : ByteArray := prog_12_method_6_code
def yX10_card : MethodName := ⟨RX10, "card", "(I)I"⟩
abbrev cX10_leads : ByteArray := prog_12_method_7_code
def yX10_leads : MethodName := ⟨RX10, "leads", "(II)Z"⟩
abbrev cX10_lean : ByteArray := prog_12_method_8_code
def yX10_lean : MethodName := ⟨RX10, "lean", "(II)I"⟩
abbrev cX10_rule : ByteArray := prog_12_method_9_code
def yX10_rule : MethodName := ⟨RX10, "rule", "(I)I"⟩
abbrev cX10_table : ByteArray := prog_12_method_10_code
def yX10_table : MethodName := ⟨RX10, "table", "(II)I"⟩
abbrev cX10_most : ByteArray := prog_12_method_11_code
def yX10_most : MethodName := ⟨RX10, "most", "(II)I"⟩
abbrev cX10_take : ByteArray := prog_12_method_12_code
def yX10_take : MethodName := ⟨RX10, "take", "(I)V"⟩
abbrev cX10_begin : ByteArray := prog_12_method_13_code
def yX10_begin : MethodName := ⟨RX10, "begin", "()V"⟩
abbrev cX10_chance : ByteArray := prog_12_method_14_code
def yX10_chance : MethodName := ⟨RX10, "chance", "(I)I"⟩
abbrev cX10_kept : ByteArray := prog_12_method_15_code
def yX10_kept : MethodName := ⟨RX10, "kept", "(JJJ)J"⟩
abbrev cX10_answerBy : ByteArray := prog_12_method_16_code
def yX10_answerBy : MethodName := ⟨RX10, "answerBy", "(IIII)V"⟩
abbrev cX10_byStrengths : ByteArray := prog_12_method_17_code
def yX10_byStrengths : MethodName := ⟨RX10, "byStrengths", "(II)V"⟩
abbrev cX10_isLeech : ByteArray := prog_12_method_18_code
def yX10_isLeech : MethodName := ⟨RX10, "isLeech", "()Z"⟩
abbrev cX10_isDue : ByteArray := prog_12_method_19_code
def yX10_isDue : MethodName := ⟨RX10, "isDue", "(I)Z"⟩
abbrev cX10_isKnownSide : ByteArray := prog_12_method_20_code
def yX10_isKnownSide : MethodName := ⟨RX10, "isKnownSide", "(III)Z"⟩
abbrev cX10_isKnown : ByteArray := prog_12_method_21_code
def yX10_isKnown : MethodName := ⟨RX10, "isKnown", "(II)Z"⟩
abbrev cX10_day : ByteArray := prog_12_method_22_code
def yX10_day : MethodName := ⟨RX10, "day", "(II)I"⟩
abbrev cX10_dueSide : ByteArray := prog_12_method_23_code
def yX10_dueSide : MethodName := ⟨RX10, "dueSide", "(IIIZ)I"⟩
abbrev cX10_leanedOn : ByteArray := prog_12_method_24_code
def yX10_leanedOn : MethodName := ⟨RX10, "leanedOn", "(II)I"⟩
abbrev cX10_start : ByteArray := prog_12_method_25_code
def yX10_start : MethodName := ⟨RX10, "start", "(I)I"⟩
abbrev cX10_next : ByteArray := prog_12_method_26_code
def yX10_next : MethodName := ⟨RX10, "next", "(I)I"⟩
abbrev cX10_dropFirst : ByteArray := prog_12_method_27_code
def yX10_dropFirst : MethodName := ⟨RX10, "dropFirst", "(I)V"⟩
abbrev cX10_answer : ByteArray := prog_12_method_28_code
def yX10_answer : MethodName := ⟨RX10, "answer", "(II)I"⟩
abbrev cX10_give : ByteArray := prog_12_method_29_code
def yX10_give : MethodName := ⟨RX10, "give", "(I)V"⟩
abbrev cX10_skip : ByteArray := prog_12_method_30_code
def yX10_skip : MethodName := ⟨RX10, "skip", "(I)I"⟩
abbrev cX10_bury : ByteArray := prog_12_method_31_code
def yX10_bury : MethodName := ⟨RX10, "bury", "(III)I"⟩
abbrev cX10_undo : ByteArray := prog_12_method_32_code
def yX10_undo : MethodName := ⟨RX10, "undo", "()I"⟩
abbrev cX10_memory : ByteArray := prog_12_method_33_code
def yX10_memory : MethodName := ⟨RX10, "memory", "(IIII)I"⟩
abbrev cX10_firstDue : ByteArray := prog_12_method_34_code
def yX10_firstDue : MethodName := ⟨RX10, "firstDue", "(II)I"⟩
abbrev cX10_when : ByteArray := prog_12_method_35_code
def yX10_when : MethodName := ⟨RX10, "when", "(III)I"⟩
abbrev cX10_sidesThat : ByteArray := prog_12_method_36_code
def yX10_sidesThat : MethodName := ⟨RX10, "sidesThat", "(II)I"⟩
abbrev cX10_pupil : ByteArray := prog_12_method_37_code
def yX10_pupil : MethodName := ⟨RX10, "pupil", "(II)I"⟩
abbrev cX10_known : ByteArray := prog_12_method_38_code
def yX10_known : MethodName := ⟨RX10, "known", "(II)I"⟩
abbrev cX10_mean : ByteArray := prog_12_method_39_code
def yX10_mean : MethodName := ⟨RX10, "mean", "(II)I"⟩
abbrev cX10_plan : ByteArray := prog_12_method_40_code
def yX10_plan : MethodName := ⟨RX10, "plan", "(II)I"⟩
abbrev cX10_putAll : ByteArray := prog_12_method_41_code
def yX10_putAll : MethodName := ⟨RX10, "putAll", "(III)Z"⟩
abbrev cX10_even : ByteArray := prog_12_method_42_code
def yX10_even : MethodName := ⟨RX10, "even", "(II)I"⟩
abbrev cX10_load : ByteArray := prog_12_method_43_code
def yX10_load : MethodName := ⟨RX10, "load", "(I)I"⟩
abbrev cX10_put : ByteArray := prog_12_method_44_code
def yX10_put : MethodName := ⟨RX10, "put", "(II)I"⟩
abbrev cX10_greatest : ByteArray := prog_12_method_45_code
def yX10_greatest : MethodName := ⟨RX10, "greatest", "(IZ)J"⟩
abbrev cX10_bestQuestion : ByteArray := prog_12_method_46_code
def yX10_bestQuestion : MethodName := ⟨RX10, "bestQuestion", "()I"⟩
abbrev cX10_test : ByteArray := prog_12_method_47_code
def yX10_test : MethodName := ⟨RX10, "test", "(III)I"⟩
abbrev cX10_told : ByteArray := prog_12_method_48_code
def yX10_told : MethodName := ⟨RX10, "told", "(II)I"⟩
abbrev cX10_weight : ByteArray := prog_12_method_49_code
def yX10_weight : MethodName := ⟨RX10, "weight", "(I)J"⟩
abbrev cX10_level : ByteArray := prog_12_method_50_code
def yX10_level : MethodName := ⟨RX10, "level", "()I"⟩
abbrev cX10_log : ByteArray := prog_12_method_51_code
def yX10_log : MethodName := ⟨RX10, "log", "()I"⟩
abbrev cX10_logged : ByteArray := prog_12_method_52_code
def yX10_logged : MethodName := ⟨RX10, "logged", "(II)I"⟩
abbrev cX10_replay : ByteArray := prog_12_method_53_code
def yX10_replay : MethodName := ⟨RX10, "replay", "(II)J"⟩
abbrev cX10_surpriseOf : ByteArray := prog_12_method_54_code
def yX10_surpriseOf : MethodName := ⟨RX10, "surpriseOf", "(II)J"⟩
abbrev cX10_surprise : ByteArray := prog_12_method_55_code
def yX10_surprise : MethodName := ⟨RX10, "surprise", "(II)J"⟩
abbrev cX10_better : ByteArray := prog_12_method_56_code
def yX10_better : MethodName := ⟨RX10, "better", "(I)I"⟩
abbrev cX10_other : ByteArray := prog_12_method_57_code
def yX10_other : MethodName := ⟨RX10, "other", "(IIII)I"⟩
abbrev cX10_check : ByteArray := prog_12_method_58_code
def yX10_check : MethodName := ⟨RX10, "check", "(I)I"⟩
def RJ9 : String := "java/lang/Math"
def TJ9 : u_T := fun k => match k with
  | _ => ("", "", "", false)
def tyJ9 : Nat → FieldType := fun k => match k with
  | _ => .int
abbrev wsJ90 : List Cond := u_ws RJ9 TJ9 0
theorem nmJ9 : ∀ a, a < 0 → ∀ b, b < 0 → a ≠ b → (TJ9 a).2.1 ≠ (TJ9 b).2.1 := by decide +kernel
theorem tyJ9_ok : ∀ k, k < 0 → parseFieldDescriptor (TJ9 k).2.2.1 = some (tyJ9 k) := by decide +kernel
abbrev cJ9_max_7cf53 : ByteArray := prog_16_method_65_code
def yJ9_max_7cf53 : MethodName := ⟨RJ9, "max", "(II)I"⟩
abbrev cJ9_max_f86c9 : ByteArray := prog_16_method_66_code
def yJ9_max_f86c9 : MethodName := ⟨RJ9, "max", "(JJ)J"⟩
abbrev cJ9_min_7cf53 : ByteArray := prog_16_method_69_code
def yJ9_min_7cf53 : MethodName := ⟨RJ9, "min", "(II)I"⟩
abbrev cJ9_min_f86c9 : ByteArray := prog_16_method_70_code
def yJ9_min_f86c9 : MethodName := ⟨RJ9, "min", "(JJ)J"⟩
def RJ10 : String := "java/lang/System"
def TJ10 : u_T := fun k => match k with
  | _ => ("", "", "", false)
def tyJ10 : Nat → FieldType := fun k => match k with
  | _ => .int
abbrev wsJ100 : List Cond := u_ws RJ10 TJ10 0
theorem nmJ10 : ∀ a, a < 0 → ∀ b, b < 0 → a ≠ b → (TJ10 a).2.1 ≠ (TJ10 b).2.1 := by decide +kernel
theorem tyJ10_ok : ∀ k, k < 0 → parseFieldDescriptor (TJ10 k).2.2.1 = some (tyJ10 k) := by decide +kernel
def RJxa1e45 : String := "java/util/AbstractCollection"
def TJxa1e45 : u_T := fun k => match k with
  | _ => ("", "", "", false)
def tyJxa1e45 : Nat → FieldType := fun k => match k with
  | _ => .int
abbrev wsJxa1e450 : List Cond := u_ws RJxa1e45 TJxa1e45 0
theorem nmJxa1e45 : ∀ a, a < 0 → ∀ b, b < 0 → a ≠ b → (TJxa1e45 a).2.1 ≠ (TJxa1e45 b).2.1 := by decide +kernel
theorem tyJxa1e45_ok : ∀ k, k < 0 → parseFieldDescriptor (TJxa1e45 k).2.2.1 = some (tyJxa1e45 k) := by decide +kernel
abbrev cJxa1e45_init_da8c8 : ByteArray := prog_18_method_1_code
def yJxa1e45_init_da8c8 : MethodName := ⟨RJxa1e45, "<init>", "()V"⟩
def RJxc12de : String := "java/util/AbstractList"
def TJxc12de : u_T := fun k => match k with
  | _ => ("", "", "", false)
def tyJxc12de : Nat → FieldType := fun k => match k with
  | _ => .int
abbrev wsJxc12de0 : List Cond := u_ws RJxc12de TJxc12de 0
theorem nmJxc12de : ∀ a, a < 0 → ∀ b, b < 0 → a ≠ b → (TJxc12de a).2.1 ≠ (TJxc12de b).2.1 := by decide +kernel
theorem tyJxc12de_ok : ∀ k, k < 0 → parseFieldDescriptor (TJxc12de k).2.2.1 = some (tyJxc12de k) := by decide +kernel
abbrev cJxc12de_init_da8c8 : ByteArray := prog_19_method_1_code
def yJxc12de_init_da8c8 : MethodName := ⟨RJxc12de, "<init>", "()V"⟩
def RJx4a65c : String := "java/util/ArrayList"
def TJx4a65c : u_T := fun k => match k with
  | 0 => ("java/util/AbstractList", "modCount", "I", false)
  | 1 => ("java/util/ArrayList", "elementData", "[Ljava/lang/Object;", false)
  | _ => ("java/util/ArrayList", "size", "I", false)
def tyJx4a65c : Nat → FieldType := fun k => match k with
  | 0 => .int
  | 1 => .array (.object "java/lang/Object")
  | _ => .int
abbrev wsJx4a65c0 : List Cond := u_ws RJx4a65c TJx4a65c 3
theorem nmJx4a65c : ∀ a, a < 3 → ∀ b, b < 3 → a ≠ b → (TJx4a65c a).2.1 ≠ (TJx4a65c b).2.1 := by decide +kernel
theorem tyJx4a65c_ok : ∀ k, k < 3 → parseFieldDescriptor (TJx4a65c k).2.2.1 = some (tyJx4a65c k) := by decide +kernel
abbrev cJx4a65c_init_da8c8 : ByteArray := prog_20_method_2_code
def yJx4a65c_init_da8c8 : MethodName := ⟨RJx4a65c, "<init>", "()V"⟩
abbrev cJx4a65c_grow_92f84 : ByteArray := prog_20_method_6_code
def yJx4a65c_grow_92f84 : MethodName := ⟨RJx4a65c, "grow", "(I)[Ljava/lang/Object;"⟩
abbrev cJx4a65c_grow_d5877 : ByteArray := prog_20_method_7_code
def yJx4a65c_grow_d5877 : MethodName := ⟨RJx4a65c, "grow", "()[Ljava/lang/Object;"⟩
abbrev cJx4a65c_size_8abf5 : ByteArray := prog_20_method_8_code
def yJx4a65c_size_8abf5 : MethodName := ⟨RJx4a65c, "size", "()I"⟩
abbrev cJx4a65c_isEmpty_aae02 : ByteArray := prog_20_method_9_code
def yJx4a65c_isEmpty_aae02 : MethodName := ⟨RJx4a65c, "isEmpty", "()Z"⟩
abbrev cJx4a65c_elementData_915e3 : ByteArray := prog_20_method_18_code
def yJx4a65c_elementData_915e3 : MethodName := ⟨RJx4a65c, "elementData", "(I)Ljava/lang/Object;"⟩
abbrev cJx4a65c_get_915e3 : ByteArray := prog_20_method_20_code
def yJx4a65c_get_915e3 : MethodName := ⟨RJx4a65c, "get", "(I)Ljava/lang/Object;"⟩
abbrev cJx4a65c_add_72be8 : ByteArray := prog_20_method_24_code
def yJx4a65c_add_72be8 : MethodName := ⟨RJx4a65c, "add", "(Ljava/lang/Object;[Ljava/lang/Object;I)V"⟩
abbrev cJx4a65c_add_9ea2d : ByteArray := prog_20_method_25_code
def yJx4a65c_add_9ea2d : MethodName := ⟨RJx4a65c, "add", "(Ljava/lang/Object;)Z"⟩
abbrev cJx4a65c_remove_915e3 : ByteArray := prog_20_method_29_code
def yJx4a65c_remove_915e3 : MethodName := ⟨RJx4a65c, "remove", "(I)Ljava/lang/Object;"⟩
abbrev cJx4a65c_fastRemove_b59b0 : ByteArray := prog_20_method_39_code
def yJx4a65c_fastRemove_b59b0 : MethodName := ⟨RJx4a65c, "fastRemove", "([Ljava/lang/Object;I)V"⟩
def RJ7 : String := "java/util/Arrays"
def TJ7 : u_T := fun k => match k with
  | _ => ("", "", "", false)
def tyJ7 : Nat → FieldType := fun k => match k with
  | _ => .int
abbrev wsJ70 : List Cond := u_ws RJ7 TJ7 0
theorem nmJ7 : ∀ a, a < 0 → ∀ b, b < 0 → a ≠ b → (TJ7 a).2.1 ≠ (TJ7 b).2.1 := by decide +kernel
theorem tyJ7_ok : ∀ k, k < 0 → parseFieldDescriptor (TJ7 k).2.2.1 = some (tyJ7 k) := by decide +kernel
abbrev cJ7_copyOf_1904c : ByteArray := prog_21_method_119_code
def yJ7_copyOf_1904c : MethodName := ⟨RJ7, "copyOf", "([Ljava/lang/Object;I)[Ljava/lang/Object;"⟩
abbrev cJ7_copyOf_6403c : ByteArray := prog_21_method_120_code
def yJ7_copyOf_6403c : MethodName := ⟨RJ7, "copyOf", "([Ljava/lang/Object;ILjava/lang/Class;)[Ljava/lang/Object;"⟩
def RJ15 : String := "java/util/Objects"
def TJ15 : u_T := fun k => match k with
  | _ => ("", "", "", false)
def tyJ15 : Nat → FieldType := fun k => match k with
  | _ => .int
abbrev wsJ150 : List Cond := u_ws RJ15 TJ15 0
theorem nmJ15 : ∀ a, a < 0 → ∀ b, b < 0 → a ≠ b → (TJ15 a).2.1 ≠ (TJ15 b).2.1 := by decide +kernel
theorem tyJ15_ok : ∀ k, k < 0 → parseFieldDescriptor (TJ15 k).2.2.1 = some (tyJ15 k) := by decide +kernel
abbrev cJ15_checkIndex_7cf53 : ByteArray := prog_24_method_17_code
def yJ15_checkIndex_7cf53 : MethodName := ⟨RJ15, "checkIndex", "(II)I"⟩
def RJ8 : String := "jdk/internal/util/ArraysSupport"
def TJ8 : u_T := fun k => match k with
  | _ => ("", "", "", false)
def tyJ8 : Nat → FieldType := fun k => match k with
  | _ => .int
abbrev wsJ80 : List Cond := u_ws RJ8 TJ8 0
theorem nmJ8 : ∀ a, a < 0 → ∀ b, b < 0 → a ≠ b → (TJ8 a).2.1 ≠ (TJ8 b).2.1 := by decide +kernel
theorem tyJ8_ok : ∀ k, k < 0 → parseFieldDescriptor (TJ8 k).2.2.1 = some (tyJ8 k) := by decide +kernel
abbrev cJ8_newLength_cabcc : ByteArray := prog_27_method_27_code
def yJ8_newLength_cabcc : MethodName := ⟨RJ8, "newLength", "(III)I"⟩
abbrev cJ8_hugeLength_7cf53 : ByteArray := prog_27_method_28_code
def yJ8_hugeLength_7cf53 : MethodName := ⟨RJ8, "hugeLength", "(II)I"⟩
def RJ3 : String := "jdk/internal/util/Preconditions"
def TJ3 : u_T := fun k => match k with
  | _ => ("", "", "", false)
def tyJ3 : Nat → FieldType := fun k => match k with
  | _ => .int
abbrev wsJ30 : List Cond := u_ws RJ3 TJ3 0
theorem nmJ3 : ∀ a, a < 0 → ∀ b, b < 0 → a ≠ b → (TJ3 a).2.1 ≠ (TJ3 b).2.1 := by decide +kernel
theorem tyJ3_ok : ∀ k, k < 0 → parseFieldDescriptor (TJ3 k).2.2.1 = some (tyJ3 k) := by decide +kernel
abbrev cJ3_checkIndex_8e157 : ByteArray := prog_28_method_11_code
def yJ3_checkIndex_8e157 : MethodName := ⟨RJ3, "checkIndex", "(IILjava/util/function/BiFunction;)I"⟩
def RL : String := "LessonCardsLaw"
abbrev cL_law : ByteArray := code
def yL_law : MethodName := ⟨RL, "law", "([I)Z"⟩
abbrev vwCl : List vw_C := [(RJx4a65c, TJx4a65c, 3), (RX0, TX0, 2), (RX1, TX1, 2), (RX2, TX2, 3), (RX3, TX3, 7), (RX4, TX4, 6), (RX5, TX5, 1), (RX6, TX6, 4), (RX7, TX7, 6), (RX8, TX8, 7), (RX9, TX9, 11), (RX10, TX10, 48)]
end
section
-- the memory: what each cell is (class number or array kind, length), int parts, references, longs, the next address, the JDK's empty array
abbrev mm_M : Type := (Nat → Option (Nat × Nat)) × (Nat → Nat → Int32) × (Nat → Nat → Option Nat) × (Nat → Nat → Int64) × Nat × Nat
def mm_u {α : Type} (f : Nat → Nat → α) (a k : Nat) (v : α) : Nat → Nat → α := fun b j => if b = a ∧ j = k then v else f b j
def mm_k (M : mm_M) (a : Nat) : Option (Nat × Nat) := M.1 a
def mm_I (M : mm_M) (a k : Nat) : Int32 := M.2.1 a k
def mm_R (M : mm_M) (a k : Nat) : Option Nat := M.2.2.1 a k
def mm_L (M : mm_M) (a k : Nat) : Int64 := M.2.2.2.1 a k
def mm_n (M : mm_M) : Nat := M.2.2.2.2.1
def mm_z (M : mm_M) : Nat := M.2.2.2.2.2
def mm_sI (M : mm_M) (a k : Nat) (v : Int32) : mm_M := (M.1, mm_u M.2.1 a k v, M.2.2)
def mm_sR (M : mm_M) (a k : Nat) (v : Option Nat) : mm_M := (M.1, M.2.1, mm_u M.2.2.1 a k v, M.2.2.2)
def mm_sL (M : mm_M) (a k : Nat) (v : Int64) : mm_M := (M.1, M.2.1, M.2.2.1, mm_u M.2.2.2.1 a k v, M.2.2.2.2)
/-- a new cell, of zeros -/
def mm_nw (M : mm_M) (kd : Nat × Nat) : mm_M := (fun b => if b = M.2.2.2.2.1 then some kd else M.1 b, fun b k => if b = M.2.2.2.2.1 then 0 else M.2.1 b k, fun b k => if b = M.2.2.2.2.1 then none else M.2.2.1 b k, fun b k => if b = M.2.2.2.2.1 then 0 else M.2.2.2.1 b k, M.2.2.2.2.1 + 1, M.2.2.2.2.2)
-- what the cells are to the kit
/-- an object's fields: 0 an int, else a reference -/
def mm_fl : List Nat → Nat → (Nat → Int32) → (Nat → Option Nat) → List Value
  | [], _, _, _ => []
  | t :: ts, k, f, g => (if t = 0 then Value.int (f k) else va_rf (g k)) :: mm_fl ts (k + 1) f g
def mm_ft : Nat → List Nat
  | 0 => [0, 1, 0]
  | 1 => [1, 0]
  | 2 => [1, 0]
  | 3 => [1, 1, 1]
  | 4 => [0, 0, 0, 0, 0, 0, 1]
  | 5 => [1, 1, 0, 1, 1, 0]
  | 6 => [1]
  | 7 => [1, 1, 0, 0]
  | 8 => [1, 0, 0, 0, 0, 0]
  | 9 => [0, 0, 0, 0, 0, 0, 0]
  | 10 => [1, 1, 1, 1, 1, 1, 1, 1, 0, 0, 0]
  | 11 => [1, 1, 1, 0, 0, 1, 0, 0, 1, 1, 1, 1, 1, 1, 1, 1, 1, 1, 1, 1, 1, 1, 1, 1, 1, 1, 1, 1, 0, 0, 0, 0, 0, 0, 1, 1, 1, 0, 1, 0, 0, 0, 0, 0, 1, 0, 1, 1]
  | _ => []
/-- the array kinds: 12 int, 13 long, 14 boolean, 15 Learner, 16 Memory, 17 Object; 18: the JDK's own empty array, which nobody writes -/
def mm_ce (cy : Nat → ClassId) (M : mm_M) (a : Nat) : va_E := match M.1 a with
  | none => .inr (0, [])
  | some (k, n) => if k < 12 then .inr (k, mm_fl (mm_ft k) 0 (M.2.1 a) (M.2.2.1 a)) else if k = 13 then .inl (cy k, n, .inr (.inl (M.2.2.2.1 a))) else if k = 12 ∨ k = 14 then .inl (cy k, n, .inl (M.2.1 a)) else .inl (cy k, n, .inr (.inr (.inr (.inr (M.2.2.1 a)))))
def mm_aty : Nat → FieldType
  | 12 => .int
  | 13 => .long
  | 14 => .boolean
  | 15 => .object "LessonCards$Learner"
  | 16 => .object "LessonCards$Memory"
  | _ => .object "java/lang/Object"
def mm_tys (cy : Nat → ClassId) : List (ClassId × FieldType) := [(cy 12, mm_aty 12), (cy 13, mm_aty 13), (cy 14, mm_aty 14), (cy 15, mm_aty 15), (cy 16, mm_aty 16), (cy 17, mm_aty 17)]
/-- what a method may write: the cells of the memory, and new ones -/
def mm_D (M : mm_M) : Nat → Prop := fun q => (∃ k n, M.1 q = some (k, n) ∧ k < 18) ∨ mm_n M ≤ q
/-- the heap holds the memory -/
def mm_h (G : va_G) (cy : Nat → ClassId) (M : mm_M) (H : Heap) : Prop := H.size = mm_n M ∧ ∃ L : List Nat, (∀ a, a ∈ L ↔ ∃ k n, M.1 a = some (k, n) ∧ k < 18) ∧ va_P G vwCl (va_pl L (mm_ce cy M)) H ∧ va_D (mm_D M) (va_pl L (mm_ce cy M))
/-- the tables' words that a method needs -/
def mm_gt : List Cond := lw_tbl.filter goodWord
def mm_nk : Cond → Bool
  | .fieldLinkNest .. => true
  | .methodLinkNest .. => true
  | .castable .. => true
  | .declares _ => true
  | _ => false
def mm_nt : List Cond := lw_tbl.filter mm_nk
/-- what is known of the machine's tables and of the one static -/
def mm_v (G : va_G) (cy : Nat → ClassId) (U : State) : Prop := va_K G vwCl (mm_tys cy) U ∧ (∀ w ∈ mm_nt, va_Nw w U) ∧ va_AO "LessonCards$Learner" U ∧ va_AO "LessonCards$Memory" U ∧ va_AO "java/lang/Object" U
def mm_s (A : Nat → Prop) (M : mm_M) (U : State) (H : Heap) : Prop := M.1 (mm_z M) = some (18, 0) ∧ (∀ a n, M.1 a = some (18, n) → a = mm_z M ∧ n = 0) ∧ va_T (.object "java/lang/Object") (mm_z M) 0 (fun _ => .null) A U H ∧ va_Z "java/util/ArrayList" "DEFAULTCAPACITY_EMPTY_ELEMENTDATA" "[Ljava/lang/Object;" (.ref (mm_z M)) A U H
-- plain facts
theorem mm_kI (M : mm_M) (a k : Nat) (v : Int32) (b : Nat) : mm_k (mm_sI M a k v) b = mm_k M b := rfl
theorem mm_kR (M : mm_M) (a k : Nat) (v : Option Nat) (b : Nat) : mm_k (mm_sR M a k v) b = mm_k M b := rfl
theorem mm_kL (M : mm_M) (a k : Nat) (v : Int64) (b : Nat) : mm_k (mm_sL M a k v) b = mm_k M b := rfl
theorem mm_II (M : mm_M) (a k : Nat) (v : Int32) (b j : Nat) : mm_I (mm_sI M a k v) b j = if b = a ∧ j = k then v else mm_I M b j := rfl
theorem mm_IR (M : mm_M) (a k : Nat) (v : Option Nat) (b j : Nat) : mm_I (mm_sR M a k v) b j = mm_I M b j := rfl
theorem mm_IL (M : mm_M) (a k : Nat) (v : Int64) (b j : Nat) : mm_I (mm_sL M a k v) b j = mm_I M b j := rfl
theorem mm_RI (M : mm_M) (a k : Nat) (v : Int32) (b j : Nat) : mm_R (mm_sI M a k v) b j = mm_R M b j := rfl
theorem mm_RR (M : mm_M) (a k : Nat) (v : Option Nat) (b j : Nat) : mm_R (mm_sR M a k v) b j = if b = a ∧ j = k then v else mm_R M b j := rfl
theorem mm_RL (M : mm_M) (a k : Nat) (v : Int64) (b j : Nat) : mm_R (mm_sL M a k v) b j = mm_R M b j := rfl
theorem mm_LI (M : mm_M) (a k : Nat) (v : Int32) (b j : Nat) : mm_L (mm_sI M a k v) b j = mm_L M b j := rfl
theorem mm_LR (M : mm_M) (a k : Nat) (v : Option Nat) (b j : Nat) : mm_L (mm_sR M a k v) b j = mm_L M b j := rfl
theorem mm_LL (M : mm_M) (a k : Nat) (v : Int64) (b j : Nat) : mm_L (mm_sL M a k v) b j = if b = a ∧ j = k then v else mm_L M b j := rfl
theorem mm_nI (M : mm_M) (a k : Nat) (v : Int32) : mm_n (mm_sI M a k v) = mm_n M := rfl
theorem mm_nR (M : mm_M) (a k : Nat) (v : Option Nat) : mm_n (mm_sR M a k v) = mm_n M := rfl
theorem mm_nL (M : mm_M) (a k : Nat) (v : Int64) : mm_n (mm_sL M a k v) = mm_n M := rfl
theorem mm_zI (M : mm_M) (a k : Nat) (v : Int32) : mm_z (mm_sI M a k v) = mm_z M := rfl
theorem mm_zR (M : mm_M) (a k : Nat) (v : Option Nat) : mm_z (mm_sR M a k v) = mm_z M := rfl
theorem mm_zL (M : mm_M) (a k : Nat) (v : Int64) : mm_z (mm_sL M a k v) = mm_z M := rfl
theorem mm_kw (M : mm_M) (kd : Nat × Nat) (b : Nat) : mm_k (mm_nw M kd) b = if b = mm_n M then some kd else mm_k M b := rfl
theorem mm_Iw (M : mm_M) (kd : Nat × Nat) (b j : Nat) : mm_I (mm_nw M kd) b j = if b = mm_n M then 0 else mm_I M b j := rfl
theorem mm_Rw (M : mm_M) (kd : Nat × Nat) (b j : Nat) : mm_R (mm_nw M kd) b j = if b = mm_n M then none else mm_R M b j := rfl
theorem mm_Lw (M : mm_M) (kd : Nat × Nat) (b j : Nat) : mm_L (mm_nw M kd) b j = if b = mm_n M then 0 else mm_L M b j := rfl
theorem mm_nW (M : mm_M) (kd : Nat × Nat) : mm_n (mm_nw M kd) = mm_n M + 1 := rfl
theorem mm_zw (M : mm_M) (kd : Nat × Nat) : mm_z (mm_nw M kd) = mm_z M := rfl
-- a memory's later form: nothing is lost
/-- M1 comes of M: new cells alone are beyond M's -/
def mm_x (M M1 : mm_M) : Prop := mm_n M ≤ mm_n M1 ∧ mm_z M1 = mm_z M ∧ ∀ q, mm_D M1 q → mm_D M q
theorem mm_x_rf (M : mm_M) : mm_x M M := ⟨Nat.le_refl _, rfl, fun _ h => h⟩
theorem mm_x_tr {M M1 M2 : mm_M} (h : mm_x M M1) (h2 : mm_x M1 M2) : mm_x M M2 := ⟨Nat.le_trans h.1 h2.1, h2.2.1.trans h.2.1, fun q hq => h.2.2 q (h2.2.2 q hq)⟩
theorem mm_x_I (M : mm_M) (a k : Nat) (v : Int32) : mm_x M (mm_sI M a k v) := ⟨Nat.le_refl _, rfl, fun _ h => h⟩
theorem mm_x_R (M : mm_M) (a k : Nat) (v : Option Nat) : mm_x M (mm_sR M a k v) := ⟨Nat.le_refl _, rfl, fun _ h => h⟩
theorem mm_x_L (M : mm_M) (a k : Nat) (v : Int64) : mm_x M (mm_sL M a k v) := ⟨Nat.le_refl _, rfl, fun _ h => h⟩
theorem mm_x_w (M : mm_M) (kd : Nat × Nat) : mm_x M (mm_nw M kd) := by
  refine ⟨Nat.le_succ _, rfl, fun q h => ?_⟩
  rcases h with ⟨k, n, h, hk⟩ | h
  · by_cases hq : q = mm_n M
    · exact Or.inr (by omega)
    · refine Or.inl ⟨k, n, ?_, hk⟩
      have h2 : (if q = mm_n M then some kd else M.1 q) = some (k, n) := h
      rwa [if_neg hq] at h2
  · exact Or.inr (Nat.le_of_succ_le h)
theorem mm_fl_get : ∀ (ts : List Nat) (k0 : Nat) (f : Nat → Int32) (g : Nat → Option Nat) (k : Nat), (mm_fl ts k0 f g)[k]? = ts[k]?.map (fun t => if t = 0 then Value.int (f (k0 + k)) else va_rf (g (k0 + k)))
  | [], _, _, _, k => by simp [mm_fl]
  | t :: ts, k0, f, g, 0 => by simp [mm_fl]
  | t :: ts, k0, f, g, k + 1 => by
    rw [mm_fl, List.getElem?_cons_succ, List.getElem?_cons_succ, mm_fl_get ts (k0 + 1) f g k, show k0 + 1 + k = k0 + (k + 1) by omega]
theorem mm_fl_len : ∀ (ts : List Nat) (k0 : Nat) (f : Nat → Int32) (g : Nat → Option Nat), (mm_fl ts k0 f g).length = ts.length
  | [], _, _, _ => rfl
  | t :: ts, k0, f, g => by rw [mm_fl, List.length_cons, mm_fl_len, List.length_cons]
theorem mm_fl_I {ts : List Nat} {f : Nat → Int32} {g : Nat → Option Nat} {k : Nat} {v : Int32} (h : ts[k]? = some 0) : (mm_fl ts 0 f g).set k (.int v) = mm_fl ts 0 (fun j => if j = k then v else f j) g := by
  apply List.ext_getElem?
  intro j
  have hl := (List.getElem?_eq_some_iff.mp h).1
  by_cases hj : k = j
  · subst hj
    rw [List.getElem?_set_self (by rw [mm_fl_len]; exact hl), mm_fl_get, h]
    simp
  · rw [List.getElem?_set_ne hj, mm_fl_get, mm_fl_get, Nat.zero_add, if_neg (Ne.symm hj)]
theorem mm_fl_R {ts : List Nat} {f : Nat → Int32} {g : Nat → Option Nat} {k : Nat} {v : Option Nat} (h : ts[k]? = some 1) : (mm_fl ts 0 f g).set k (va_rf v) = mm_fl ts 0 f (fun j => if j = k then v else g j) := by
  apply List.ext_getElem?
  intro j
  have hl := (List.getElem?_eq_some_iff.mp h).1
  by_cases hj : k = j
  · subst hj
    rw [List.getElem?_set_self (by rw [mm_fl_len]; exact hl), mm_fl_get, h]
    simp
  · rw [List.getElem?_set_ne hj, mm_fl_get, mm_fl_get, Nat.zero_add, if_neg (Ne.symm hj)]
theorem mm_u_at {α : Type} (f : Nat → Nat → α) (a k : Nat) (v : α) : mm_u f a k v a = fun j => if j = k then v else f a j := by
  funext j
  simp [mm_u]
theorem mm_u_ne {α : Type} (f : Nat → Nat → α) {a b : Nat} (k : Nat) (v : α) (h : b ≠ a) : mm_u f a k v b = f b := by
  funext j
  simp [mm_u, h]
/-- one cell changed, the others as they were -/
theorem mm_ce_up {cy : Nat → ClassId} {M M1 : mm_M} {a : Nat} {e : va_E} (ha : mm_ce cy M1 a = e) (h : ∀ b, b ≠ a → mm_ce cy M1 b = mm_ce cy M b) : ∀ b, va_up (mm_ce cy M) a e b = mm_ce cy M1 b := by
  intro b
  by_cases hb : b = a
  · subst hb
    rw [va_up_self, ha]
  · rw [va_up_ne _ _ hb, h b hb]
theorem mm_ce_ne {cy : Nat → ClassId} {M M1 : mm_M} {b : Nat} (h1 : M1.1 b = M.1 b) (h2 : M1.2.1 b = M.2.1 b) (h3 : M1.2.2.1 b = M.2.2.1 b) (h4 : M1.2.2.2.1 b = M.2.2.2.1 b) : mm_ce cy M1 b = mm_ce cy M b := by
  unfold mm_ce
  rw [h1, h2, h3, h4]
theorem mm_ce_obj {cy : Nat → ClassId} {M : mm_M} {a k n : Nat} (h : M.1 a = some (k, n)) (hk : k < 12) : mm_ce cy M a = .inr (k, mm_fl (mm_ft k) 0 (M.2.1 a) (M.2.2.1 a)) := by
  simp only [mm_ce, h, if_pos hk]
theorem mm_ce_i {cy : Nat → ClassId} {M : mm_M} {a n : Nat} (h : M.1 a = some (12, n)) : mm_ce cy M a = .inl (cy 12, n, .inl (M.2.1 a)) := by simp [mm_ce, h]
theorem mm_ce_z {cy : Nat → ClassId} {M : mm_M} {a n : Nat} (h : M.1 a = some (14, n)) : mm_ce cy M a = .inl (cy 14, n, .inl (M.2.1 a)) := by simp [mm_ce, h]
theorem mm_ce_l {cy : Nat → ClassId} {M : mm_M} {a n : Nat} (h : M.1 a = some (13, n)) : mm_ce cy M a = .inl (cy 13, n, .inr (.inl (M.2.2.2.1 a))) := by simp [mm_ce, h]
theorem mm_ce_q {cy : Nat → ClassId} {M : mm_M} {a k n : Nat} (h : M.1 a = some (k, n)) (hk : 15 ≤ k) : mm_ce cy M a = .inl (cy k, n, .inr (.inr (.inr (.inr (M.2.2.1 a))))) := by
  simp only [mm_ce, h, if_neg (show ¬ k < 12 by omega), if_neg (show ¬ k = 13 by omega), if_neg (show ¬ (k = 12 ∨ k = 14) by omega)]
theorem mm_in_gt {w : Cond} (k : Nat) (h : lw_tbl[k]? = some w) (hg : goodWord w = true) : w ∈ mm_gt := List.mem_filter.mpr ⟨List.mem_of_getElem? h, hg⟩
theorem mm_in_nt {w : Cond} (k : Nat) (h : lw_tbl[k]? = some w) (hg : mm_nk w = true) : w ∈ mm_nt := List.mem_filter.mpr ⟨List.mem_of_getElem? h, hg⟩
theorem mm_gi {w : Cond} {y : Cond} (hw : w ∈ mm_gt) : GoodIn (y :: mm_gt) (w :: mm_gt) := by
  intro v hv
  rcases List.mem_cons.mp hv with rfl | hv
  · exact ⟨List.mem_cons_of_mem _ hw, good_of_word (List.mem_filter.mp hw).2⟩
  · exact ⟨List.mem_cons_of_mem _ hv, good_of_word (List.mem_filter.mp hv).2⟩
end
section
-- values of the machine that the walks use, typed
abbrev mm_V : Type := Int32 ⊕ Int64 ⊕ Option Nat
abbrev mm_i (x : Int32) : mm_V := .inl x
abbrev mm_j (x : Int64) : mm_V := .inr (.inl x)
abbrev mm_r (x : Option Nat) : mm_V := .inr (.inr x)
def mm_val : mm_V → Value
  | .inl x => .int x
  | .inr (.inl x) => .long x
  | .inr (.inr r) => va_rf r
def mm_cat : mm_V → Nat
  | .inl _ => 1
  | .inr (.inl _) => 2
  | .inr (.inr _) => 1
theorem mm_val_cat (v : mm_V) : (mm_val v).category = mm_cat v := by
  rcases v with x | x | r
  · rfl
  · rfl
  · cases r <;> rfl
abbrev mm_lv (l : List (Nat × mm_V)) : List (Nat × Value) := l.map (fun q => (q.1, mm_val q.2))
abbrev mm_st (l : List mm_V) : List Value := l.map mm_val
def mm_args : Nat → List mm_V → List (Nat × mm_V)
  | _, [] => []
  | k, v :: vs => (k, v) :: mm_args (k + mm_cat v) vs
theorem mm_args_eq : ∀ (vs : List mm_V) (k : Nat), lv_args k (mm_st vs) = mm_lv (mm_args k vs)
  | [], _ => rfl
  | v :: vs, k => by
    have ih := mm_args_eq vs (k + mm_cat v)
    have hc := mm_val_cat v
    rcases v with x | x | r
    · simpa [lv_args, mm_st, mm_args, mm_val, mm_cat, Value.category, mm_lv] using ih
    · simpa [lv_args, mm_st, mm_args, mm_val, mm_cat, Value.category, mm_lv] using ih
    · cases r <;> simpa [lv_args, mm_st, mm_args, mm_val, mm_cat, Value.category, mm_lv, va_rf] using ih
theorem mm_sl_len : ∀ (vs : List mm_V), (lg_sl (mm_st vs)).length = (vs.map mm_cat).sum
  | [] => rfl
  | v :: vs => by
    have ih := mm_sl_len vs
    simp only [lg_sl, mm_st, List.map_cons, List.flatMap_cons, List.length_append, List.sum_cons] at ih ⊢
    rw [ih, mm_val_cat]
    rcases v with x | x | r <;> simp [mm_cat]
theorem mm_st_cat (vs : List mm_V) : ((mm_st vs).map fun v => v.category).sum = (vs.map mm_cat).sum := by
  simp only [mm_st, List.map_map]
  congr 1
  apply List.map_congr_left
  intro v _
  exact mm_val_cat v
-- where a walk stands: program, launch, environment, room, start, method, arguments, below, method, code; numbering, array classes, the memory at the start, how many locals, the end that is wanted
abbrev mm_c : Type := Program × Launch × Env × Room × State × MethodId × (Array Value) × (List Frame) × Method × Code × va_G × (Nat → ClassId) × mm_M × Nat × (State → Prop)
def mm_X (g : mm_c) (cells slots : Nat) (M : mm_M) (pc : Nat) (lv : List (Nat × mm_V)) (st : List mm_V) : Prop := match g with
  | (p, l, e, R, s, m, args, below, meth, c, G, cy, M0, nL, Q) => ∀ (H : Heap) (locs : List Loc) (ls : Array Slot), mm_h G cy M H → mm_x M0 M → mm_s (mm_D M0) M s H → va_S (mm_D M0) s.heap H locs → lv_has ls nL (mm_lv lv) → W p l e R s m args below meth c H locs cells slots Q (F0 m pc ls (mm_st st))
/-- what is known where a method's walk begins -/
def mm_ok (g : mm_c) (cc : ByteArray) (own : String) (ret : Option FieldType) (nm : String) (nLoc fr lo mc ms : Nat) : Prop := match g with
  | (p, l, e, R, s, m, args, below, meth, c, G, cy, M0, nL, Q) => p.tables.exec = Jvm.exec ∧ c.code = cc ∧ c.maxLocals = nLoc ∧ nL = nLoc ∧ s.vm.findClass own = some m.cls ∧ (∀ w ∈ mm_gt, w.before args s = true) ∧ mm_v G cy s ∧ meth.locks = false ∧ meth.sig.returnType = ret ∧ meth.name = nm ∧ mm_n M0 = s.heap.size ∧ R = { frames := fr, cells := mc, slots := ms, locals := lo }
/-- the JDK's empty array is known, and no other cell is of its kind -/
def mm_p (M : mm_M) : Prop := M.1 (mm_z M) = some (18, 0) ∧ ∀ a n, M.1 a = some (18, n) → a = mm_z M ∧ n = 0
def mm_Q (G : va_G) (cy : Nat → ClassId) (M0 : mm_M) (v : Option mm_V) (M1 : mm_M) : Array Value → State → Outcome → State → Prop := fun _ st oc t =>
  (oc = .returned (v.map mm_val) ∧ mm_x M0 M1 ∧ mm_h G cy M1 t.heap ∧ mm_p M1) ∧ va_F (mm_D M0) st t
def mm_q (g : mm_c) (mc ms : Nat) (v : Option mm_V) (M1 : mm_M) : Prop := match g with
  | (p, l, e, R, s, m, args, below, meth, c, G, cy, M0, nL, Q) => Q = MQ below (mm_Q G cy M0 v M1) args s mc ms (mm_D M0)
def mm_pre (G : va_G) (cy : Nat → ClassId) (M : mm_M) (U : State) : Prop := mm_h G cy M U.heap ∧ mm_v G cy U ∧ mm_s (mm_D M) M U U.heap
/-- a method's contract: from the memory M and the arguments av it returns v, and the memory is M1 -/
def mm_Met (l : Launch) (y : MethodName) (b : ByteArray) (maxL : Nat) (ret : Option FieldType) (fr lo mc ms : Nat) (G : va_G) (cy : Nat → ClassId) (av : List mm_V) (M : mm_M) (v : Option mm_V) (M1 : mm_M) : Prop :=
  Met l y (.code y b maxL ret :: mm_gt) { frames := fr, cells := mc, slots := ms, locals := lo } (va_Pc (mm_st av) (mm_pre G cy M)) (mm_Q G cy M v M1) mc ms (mm_D M)
theorem mm_enter {l : Launch} {y : MethodName} {b : ByteArray} {maxL : Nat} {ret : Option FieldType} {fr lo mc ms : Nat} {G : va_G} {cy : Nat → ClassId} {av : List mm_V} {M : mm_M} {v : Option mm_V} {M1 : mm_M}
    (hy : plainName y.cls = true) (hl : (av.map mm_cat).sum ≤ maxL)
    (body : ∀ (p : Program) (e : Env) (R : Room) (s : State) (m : MethodId) (args : Array Value) (below : List Frame) (meth : Method) (c : Code) (Q : State → Prop), mm_ok (p, l, e, R, s, m, args, below, meth, c, G, cy, M, maxL, Q) b y.cls ret y.name maxL fr lo mc ms → mm_q (p, l, e, R, s, m, args, below, meth, c, G, cy, M, maxL, Q) mc ms v M1 → mm_X (p, l, e, R, s, m, args, below, meth, c, G, cy, M, maxL, Q) 0 0 M 0 (mm_args 0 av) []) :
    mm_Met l y b maxL ret fr lo mc ms G cy av M v M1 := by
  refine Met.ofW (cc := b) (maxL := maxL) (ret := ret) hy rfl ?_
  intro p e s m args below meth c s₁ B hml hv
  obtain ⟨rfl, hh, hvv, hs⟩ := hv
  have hts := atoms_spec (ws := .code y b maxL ret :: mm_gt) B.pre
  rw [lg_entry_eq]
  have h := body p e { frames := fr, cells := mc, slots := ms, locals := lo } s m (mm_st av).toArray below meth c (MQ below (mm_Q G cy M v M1) (mm_st av).toArray s mc ms (mm_D M))
    ⟨B.exec, B.bytes, hml, rfl, findClass_of_methodNamed B.named, fun w hw => hts w (List.mem_cons_of_mem _ hw), hvv, B.notSynchronized, B.returns, (name_of_methodNamed B.named B.method).1, hh.1.symm, rfl⟩ rfl
  refine h s.heap [] _ hh (mm_x_rf M) hs va_S.rf ?_
  have h2 := lv_entry (mm_st av) (n := maxL) (by rw [mm_sl_len]; exact hl)
  rw [mm_args_eq] at h2
  exact h2
-- moved along the machine's notes
theorem mm_nk_warm {w : Cond} {s U : State} (hk : mm_nk w = true) (hW : s.WarmedH U.vm) (h : va_Nw w s) : va_Nw w U := by
  cases w <;> first | exact va_Nw.warmF hW h | exact va_Nw.warmM hW h | exact va_Nw.warmC hW h | exact va_Nw.warmD hW h | (simp [mm_nk] at hk)
theorem mm_nk_tab {w : Cond} (hk : mm_nk w = true) : w.onTables = true := by
  cases w <;> first | rfl | (simp [mm_nk] at hk)
theorem mm_v_moved {G : va_G} {cy : Nat → ClassId} {s U : State} (hW : s.WarmedH U.vm) (h : mm_v G cy s) : mm_v G cy U :=
  ⟨va_K.moved hW.alike h.1, fun w hw => mm_nk_warm (List.mem_filter.mp hw).2 hW (h.2.1 w hw), va_AO.moved hW.alike h.2.2.1, va_AO.moved hW.alike h.2.2.2.1, va_AO.moved hW.alike h.2.2.2.2⟩
theorem mm_v_same {G : va_G} {cy : Nat → ClassId} {s U : State} (hW : s.vm = U.vm) (h : mm_v G cy s) : mm_v G cy U := by
  have hA : s.vm.Alike U.vm := by rw [← hW]; exact Vm.Alike.refl _
  exact ⟨va_K.moved hA h.1, fun w hw => va_Nw.same (mm_nk_tab (List.mem_filter.mp hw).2) hW (h.2.1 w hw), va_AO.moved hA h.2.2.1, va_AO.moved hA h.2.2.2.1, va_AO.moved hA h.2.2.2.2⟩
theorem mm_s_moved {A : Nat → Prop} {M : mm_M} {s U : State} {H : Heap} (hW : s.vm.Alike U.vm) (h : mm_s A M s H) : mm_s A M U H :=
  ⟨h.1, h.2.1, va_T.moved hW h.2.2.1, va_Z.moved hW h.2.2.2⟩
theorem mm_s_narrow {A B : Nat → Prop} {M : mm_M} {s : State} {H : Heap} (h : mm_s A M s H) (hAB : ∀ q, B q → A q) : mm_s B M s H :=
  ⟨h.1, h.2.1, va_T.narrow h.2.2.1 hAB, va_Z.narrow h.2.2.2 hAB⟩
theorem mm_s_kept {A : Nat → Prop} {M : mm_M} {s : State} {H H1 : Heap} (h : mm_s A M s H) (hq : ∀ a : Nat, a < H.size → ¬ A a → H1[a]? = H[a]?) : mm_s A M s H1 :=
  ⟨h.1, h.2.1, va_T.kept h.2.2.1 hq, va_Z.kept h.2.2.2 hq⟩
theorem mm_pre_blind (G : va_G) (cy : Nat → ClassId) (M : mm_M) (av : List Value) : FrameBlind (va_Pc av (mm_pre G cy M)) := by
  intro a U g mk q
  obtain ⟨h1, h2, h3, h4⟩ := q
  exact ⟨h1, h2, mm_v_same (s := U) (U := U.calling g mk a) rfl h3, mm_s_moved (U := U.calling g mk a) (Vm.Alike.refl U.vm) h4⟩
theorem mm_h_lt {G : va_G} {cy : Nat → ClassId} {M : mm_M} {H : Heap} (h : mm_h G cy M H) {a k n : Nat} (ha : M.1 a = some (k, n)) (hk : k < 18) : a < mm_n M := by
  obtain ⟨hz, L, hL, hP, -⟩ := h
  obtain ⟨i, hi⟩ := va_pl_get (X := []) (f := mm_ce cy M) ((hL a).mpr ⟨k, n, ha, hk⟩)
  have := (hP i _ hi).lt
  omega
theorem mm_s_lt {A : Nat → Prop} {M : mm_M} {s : State} {H : Heap} (h : mm_s A M s H) : mm_z M < H.size := by
  obtain ⟨-, -, ⟨cell, hc, -⟩, -⟩ := h
  exact (Array.getElem?_eq_some_iff.mp hc).1
/-- what stands of the memory in the kit's words, at one cell -/
theorem mm_h_at {G : va_G} {cy : Nat → ClassId} {M : mm_M} {H : Heap} (h : mm_h G cy M H) {a k n : Nat} (ha : M.1 a = some (k, n)) (hk : k < 18) : va_P G vwCl [(a, mm_ce cy M a)] H := by
  obtain ⟨hz, L, hL, hP, -⟩ := h
  obtain ⟨i, hi⟩ := va_pl_get (X := []) (f := mm_ce cy M) ((hL a).mpr ⟨k, n, ha, hk⟩)
  intro j q hj
  match j, hj with
  | 0, hj => cases hj; exact hP i _ hi
  | j + 1, hj => simp at hj
/-- one cell written -/
theorem mm_h_put {G : va_G} {cy : Nat → ClassId} {M M1 : mm_M} {H H1 : Heap} {a : Nat} {e : va_E} (h : mm_h G cy M H) (he : mm_ce cy M1 a = e) (hk : M1.1 = M.1) (hn : mm_n M1 = mm_n M) (hc : ∀ b, b ≠ a → mm_ce cy M1 b = mm_ce cy M b)
    (hz : H1.size = H.size) (L : List Nat) (hL : ∀ a, a ∈ L ↔ ∃ k n, M.1 a = some (k, n) ∧ k < 18) (i : Nat) (hi : ([] ++ va_pl L (mm_ce cy M))[i]? = some (a, mm_ce cy M a)) (haL : a ∈ L) (hD0 : va_D (mm_D M) ([] ++ va_pl L (mm_ce cy M)))
    (hP : va_P G vwCl (([] ++ va_pl L (mm_ce cy M)).set i (a, e)) H1) (hD : va_D (mm_D M) (([] ++ va_pl L (mm_ce cy M)).set i (a, e))) : mm_h G cy M1 H1 := by
  rw [va_pl_set hD0 haL hi] at hP hD
  have e1 : va_pl L (va_up (mm_ce cy M) a e) = va_pl L (mm_ce cy M1) := va_pl_congr (mm_ce_up he hc)
  rw [e1] at hP hD
  have hDD : mm_D M1 = mm_D M := by
    funext q
    simp only [mm_D, hk, hn]
  exact ⟨by rw [hz, h.1, hn], L, by rw [hk]; exact hL, hP, by rw [hDD]; exact hD⟩
end
section
-- what the instructions do to the memory, where they may
def mm_gd {α : Type} (c : Prop) [Decidable c] (x : Option α) : Option α := if c then x else none
def mm_b2 {α β γ : Type} (x : Option (α × β)) (F : α → β → Option γ) : Option γ := match x with
  | none => none
  | some q => F q.1 q.2
def mm_le {α β : Type} (x : α) (F : α → Option β) : Option β := F x
def mm_mp {α β : Type} (x : Option α) : Option (β ⊕ α) := match x with
  | none => none
  | some y => some (.inr y)
def mm_fI (M : mm_M) (r : Option Nat) (ci k : Nat) : Option Int32 := match r with
  | none => none
  | some a => if mm_k M a = some (ci, 0) then some (mm_I M a k) else none
def mm_fR (M : mm_M) (r : Option Nat) (ci k : Nat) : Option (Option Nat) := match r with
  | none => none
  | some a => if mm_k M a = some (ci, 0) then some (mm_R M a k) else none
def mm_pI (M : mm_M) (r : Option Nat) (ci k : Nat) (v : Int32) : Option mm_M := match r with
  | none => none
  | some a => if mm_k M a = some (ci, 0) then some (mm_sI M a k v) else none
def mm_pZ (M : mm_M) (r : Option Nat) (ci k : Nat) (v : Int32) : Option mm_M := match r with
  | none => none
  | some a => if mm_k M a = some (ci, 0) ∧ (v = 0 ∨ v = 1) then some (mm_sI M a k v) else none
def mm_pR (M : mm_M) (r : Option Nat) (ci k : Nat) (v : Option Nat) : Option mm_M := match r with
  | none => none
  | some a => if mm_k M a = some (ci, 0) then some (mm_sR M a k v) else none
/-- the length of an array of the kind kd -/
def mm_al (M : mm_M) (r : Option Nat) (kd : Nat) : Option Nat := match r with
  | none => none
  | some a => match mm_k M a with
    | none => none
    | some q => if q.1 = kd then some q.2 else none
def mm_aI (M : mm_M) (r : Option Nat) (kd : Nat) (i : Int32) : Option Int32 := match r with
  | none => none
  | some a => match mm_k M a with
    | none => none
    | some q => if q.1 = kd ∧ ¬ (i < 0 ∨ q.2 ≤ i.toNatClampNeg) then some (mm_I M a i.toNatClampNeg) else none
def mm_aL (M : mm_M) (r : Option Nat) (i : Int32) : Option Int64 := match r with
  | none => none
  | some a => match mm_k M a with
    | none => none
    | some q => if q.1 = 13 ∧ ¬ (i < 0 ∨ q.2 ≤ i.toNatClampNeg) then some (mm_L M a i.toNatClampNeg) else none
def mm_aR (M : mm_M) (r : Option Nat) (kd : Nat) (i : Int32) : Option (Option Nat) := match r with
  | none => none
  | some a => match mm_k M a with
    | none => none
    | some q => if q.1 = kd ∧ ¬ (i < 0 ∨ q.2 ≤ i.toNatClampNeg) then some (mm_R M a i.toNatClampNeg) else none
def mm_tI (M : mm_M) (r : Option Nat) (i : Int32) (v : Int32) : Option mm_M := match r with
  | none => none
  | some a => match mm_k M a with
    | none => none
    | some q => if q.1 = 12 ∧ ¬ (i < 0 ∨ q.2 ≤ i.toNatClampNeg) then some (mm_sI M a i.toNatClampNeg v) else none
def mm_tZ (M : mm_M) (r : Option Nat) (i : Int32) (v : Int32) : Option mm_M := match r with
  | none => none
  | some a => match mm_k M a with
    | none => none
    | some q => if q.1 = 14 ∧ ¬ (i < 0 ∨ q.2 ≤ i.toNatClampNeg) ∧ (v = 0 ∨ v = 1) then some (mm_sI M a i.toNatClampNeg v) else none
def mm_tL (M : mm_M) (r : Option Nat) (i : Int32) (v : Int64) : Option mm_M := match r with
  | none => none
  | some a => match mm_k M a with
    | none => none
    | some q => if q.1 = 13 ∧ ¬ (i < 0 ∨ q.2 ≤ i.toNatClampNeg) then some (mm_sL M a i.toNatClampNeg v) else none
/-- may the reference v stand in an array of the kind kd? -/
def mm_may (M : mm_M) (kd : Nat) (v : Option Nat) : Prop := match v with
  | none => True
  | some b => match mm_k M b with
    | none => False
    | some q => q.1 < 12 ∧ ((kd = 15 ∧ q.1 = 7) ∨ (kd = 16 ∧ q.1 = 9) ∨ kd = 17)
def mm_tR (M : mm_M) (r : Option Nat) (kd : Nat) (i : Int32) (v : Option Nat) : Option mm_M := match r with
  | none => none
  | some a => match mm_k M a with
    | none => none
    | some q => match v with
      | none => if q.1 = kd ∧ ¬ (i < 0 ∨ q.2 ≤ i.toNatClampNeg) then some (mm_sR M a i.toNatClampNeg none) else none
      | some b => match mm_k M b with
        | none => none
        | some w => if (q.1 = kd ∧ ¬ (i < 0 ∨ q.2 ≤ i.toNatClampNeg)) ∧ w.1 < 12 ∧ ((kd = 15 ∧ w.1 = 7) ∨ (kd = 16 ∧ w.1 = 9) ∨ kd = 17) then some (mm_sR M a i.toNatClampNeg (some b)) else none
/-- an array's length, as the machine tells it -/
def mm_ln (M : mm_M) (r : Option Nat) : Option Int32 := match r with
  | none => none
  | some a => match mm_k M a with
    | none => none
    | some q => if 12 ≤ q.1 ∧ q.1 ≤ 18 then some (nI q.2) else none
/-- a new array of at most lim places -/
def mm_na (M : mm_M) (kd : Nat) (i : Int32) (lim : Nat) : Option mm_M := if ¬ i < 0 ∧ i.toNatClampNeg ≤ lim then some (mm_nw M (kd, i.toNatClampNeg)) else none
/-- a cast to an own class -/
def mm_cc (M : mm_M) (r : Option Nat) (ci : Nat) : Option Unit := match r with
  | none => some ()
  | some a => if mm_k M a = some (ci, 0) then some () else none
/-- the receiver of a call: an object of its class -/
def mm_rc (M : mm_M) (r : Option Nat) (ci : Nat) : Option Unit := match r with
  | none => none
  | some a => if mm_k M a = some (ci, 0) then some () else none
def mm_dI (x y : Int32) : Option Int32 := if y = 0 then none else some (x / y)
def mm_mI (x y : Int32) : Option Int32 := if y = 0 then none else some (x - x / y * y)
def mm_dL (x y : Int64) : Option Int64 := if y = 0 then none else some (x / y)
def mm_mL (x y : Int64) : Option Int64 := if y = 0 then none else some (x - x / y * y)
theorem mm_gd_e {α : Type} {c : Prop} [Decidable c] {x : Option α} {y : α} (h : mm_gd c x = some y) : c ∧ x = some y := by
  unfold mm_gd at h
  split at h
  · exact ⟨by assumption, h⟩
  · cases h
theorem mm_le_e {α β : Type} {x : α} {F : α → Option β} {y : β} (h : mm_le x F = some y) : ∃ a, a = x ∧ F a = some y := ⟨x, rfl, h⟩
theorem mm_bd_e {α β : Type} {x : Option α} {F : α → Option β} {y : β} (h : x.bind F = some y) : ∃ a, x = some a ∧ F a = some y := by
  cases x with
  | none => cases h
  | some a => exact ⟨a, rfl, h⟩
theorem mm_b2_e {α β γ : Type} {x : Option (α × β)} {F : α → β → Option γ} {y : γ} (h : mm_b2 x F = some y) : ∃ a b, x = some (a, b) ∧ F a b = some y := by
  cases x with
  | none => cases h
  | some q => exact ⟨q.1, q.2, rfl, h⟩
theorem mm_mp_e {α β : Type} {x : Option α} {y : β ⊕ α} (h : mm_mp (β := β) x = some y) : ∃ z, x = some z ∧ y = .inr z := by
  cases x with
  | none => cases h
  | some z => exact ⟨z, rfl, (Option.some.inj h).symm⟩
theorem mm_if_e {α : Type} {c : Prop} [Decidable c] {x z : Option α} {y : α} (h : (if c then x else z) = some y) : (c ∧ x = some y) ∨ (¬ c ∧ z = some y) := by
  split at h
  · exact Or.inl ⟨by assumption, h⟩
  · exact Or.inr ⟨by assumption, h⟩
-- a loop: its body goes on with a new state, or ends
def mm_lp {σ ρ : Type} (body : σ → Option (σ ⊕ ρ)) : Nat → σ → Option ρ
  | 0, _ => none
  | n + 1, x => match body x with
    | none => none
    | some (.inl y) => mm_lp body n y
    | some (.inr r) => some r
theorem mm_lp_up {σ ρ : Type} {body : σ → Option (σ ⊕ ρ)} {r : ρ} : ∀ {n : Nat} {x : σ}, mm_lp body n x = some r → mm_lp body (n + 1) x = some r
  | 0, x, h => by cases h
  | n + 1, x, h => by
    unfold mm_lp at h ⊢
    cases hb : body x with
    | none => rw [hb] at h; cases h
    | some q =>
      rw [hb] at h
      cases q with
      | inl y => exact mm_lp_up (n := n) h
      | inr z => exact h
theorem mm_lp_le {σ ρ : Type} {body : σ → Option (σ ⊕ ρ)} {r : ρ} {n : Nat} {x : σ} (h : mm_lp body n x = some r) : ∀ k, mm_lp body (n + k) x = some r
  | 0 => h
  | k + 1 => mm_lp_up (mm_lp_le h k)
theorem mm_lp_one {σ ρ : Type} {body : σ → Option (σ ⊕ ρ)} {r r2 : ρ} {n m : Nat} {x : σ} (h : mm_lp body n x = some r) (h2 : mm_lp body m x = some r2) : r = r2 := by
  have a := mm_lp_le h m
  have b := mm_lp_le h2 n
  rw [Nat.add_comm] at b
  exact Option.some.inj (a.symm.trans b)
noncomputable def mm_w {σ ρ : Type} (body : σ → Option (σ ⊕ ρ)) (x : σ) : Option ρ := @dite _ (∃ n r, mm_lp body n x = some r) (Classical.propDecidable _) (fun h => mm_lp body (Classical.choose h) x) (fun _ => none)
theorem mm_w_of {σ ρ : Type} {body : σ → Option (σ ⊕ ρ)} {x : σ} {n : Nat} {r : ρ} (h : mm_lp body n x = some r) : mm_w body x = some r := by
  have hE : ∃ n r, mm_lp body n x = some r := ⟨n, r, h⟩
  unfold mm_w
  rw [dif_pos hE]
  obtain ⟨r2, h2⟩ := Classical.choose_spec hE
  rw [h2, mm_lp_one h h2]
theorem mm_w_to {σ ρ : Type} {body : σ → Option (σ ⊕ ρ)} {x : σ} {r : ρ} (h : mm_w body x = some r) : ∃ n, mm_lp body n x = some r := by
  unfold mm_w at h
  split at h
  · exact ⟨_, h⟩
  · cases h
theorem mm_w_eq {σ ρ : Type} (body : σ → Option (σ ⊕ ρ)) (x : σ) : mm_w body x = match body x with
    | none => none
    | some (.inl y) => mm_w body y
    | some (.inr r) => some r := by
  cases hb : body x with
  | none =>
    cases hw : mm_w body x with
    | none => rfl
    | some r =>
      obtain ⟨n, h⟩ := mm_w_to hw
      cases n with
      | zero => cases h
      | succ n => unfold mm_lp at h; rw [hb] at h; cases h
  | some q =>
    cases q with
    | inr z => exact mm_w_of (n := 1) (by unfold mm_lp; rw [hb])
    | inl y =>
      show mm_w body x = mm_w body y
      cases hw : mm_w body y with
      | some r =>
        obtain ⟨n, h⟩ := mm_w_to hw
        exact mm_w_of (n := n + 1) (by unfold mm_lp; rw [hb]; exact h)
      | none =>
        cases hx : mm_w body x with
        | none => rfl
        | some r =>
          obtain ⟨n, h⟩ := mm_w_to hx
          cases n with
          | zero => cases h
          | succ n =>
            unfold mm_lp at h
            rw [hb] at h
            rw [mm_w_of h] at hw
            cases hw
theorem mm_w_l {σ ρ : Type} {body : σ → Option (σ ⊕ ρ)} {x y : σ} (h : body x = some (.inl y)) : mm_w body x = mm_w body y := by rw [mm_w_eq, h]
theorem mm_w_r {σ ρ : Type} {body : σ → Option (σ ⊕ ρ)} {x : σ} {r : ρ} (h : body x = some (.inr r)) : mm_w body x = some r := by rw [mm_w_eq, h]
/-- where a loop's end goes: on with a state of which Wh holds, or out with what ok holds of -/
def mm_o {σ ρ : Type} (Wh : σ → Prop) (ok : ρ → Prop) : σ ⊕ ρ → Prop
  | .inl x => Wh x
  | .inr y => ok y
theorem mm_w_W {σ ρ : Type} {body : σ → Option (σ ⊕ ρ)} {Wh : σ → Prop} {ok : ρ → Prop} (hb : ∀ x res, body x = some res → mm_o Wh ok res → Wh x) {x : σ} {r : ρ} (h : mm_w body x = some r) (hr : ok r) : Wh x := by
  obtain ⟨n, h1⟩ := mm_w_to h
  clear h
  revert h1
  induction n generalizing x with
  | zero => intro h; cases h
  | succ n ih =>
    intro h
    unfold mm_lp at h
    cases hbx : body x with
    | none => rw [hbx] at h; cases h
    | some q =>
      rw [hbx] at h
      cases q with
      | inl y => exact hb x _ hbx (ih h)
      | inr z => cases h; exact hb x _ hbx hr
end
section
section
variable {g : mm_c} {cc : ByteArray} {own nm : String} {ret : Option FieldType} {nL fr lo mc ms cells slots : Nat} {M : mm_M} {pc : Nat} {lv : List (Nat × mm_V)} {st : List mm_V}
theorem xr_lat {ls : Array Slot} (h : lv_has ls nL (mm_lv lv)) {k i : Nat} {v : mm_V} (hk : lv[k]? = some (i, v)) : ls[i]? = some (.val (mm_val v)) := lv_at h k (by rw [List.getElem?_map, hk]; rfl)
theorem xr_eq {pc2 : Nat} {lv2 : List (Nat × mm_V)} {st2 : List mm_V} (h1 : pc = pc2) (h2 : lv = lv2) (h3 : st = st2) (k : mm_X g cells slots M pc2 lv2 st2) : mm_X g cells slots M pc lv st := by
  subst h1; subst h2; subst h3; exact k
theorem xr_sub {lv2 : List (Nat × mm_V)} (ks : List Nat) (h : ks.filterMap (fun k => lv[k]?) = lv2) (k : mm_X g cells slots M pc lv2 st) : mm_X g cells slots M pc lv st := by
  obtain ⟨p, l, e, R, s, m, args, below, meth, c, G, cy, M0, nL, Q⟩ := g
  intro H locs ls h1 h2 h3 h4 hl
  refine k H locs ls h1 h2 h3 h4 ⟨hl.1, hl.2.1, fun q hq => ?_⟩
  obtain ⟨q0, hq0, rfl⟩ := List.mem_map.mp hq
  rw [← h] at hq0
  obtain ⟨i, -, hi⟩ := List.mem_filterMap.mp hq0
  exact hl.2.2 _ (List.mem_map.mpr ⟨q0, List.mem_of_getElem? hi, rfl⟩)
theorem xr_widen {k n : Nat} (h1 : cells ≤ k) (h2 : slots ≤ n) (kk : mm_X g k n M pc lv st) : mm_X g cells slots M pc lv st := by
  obtain ⟨p, l, e, R, s, m, args, below, meth, c, G, cy, M0, nL, Q⟩ := g
  intro H locs ls a1 a2 a3 a4 hl
  exact W.widen h1 h2 (kk H locs ls a1 a2 a3 a4 hl)
-- constants, locals
theorem xr_iconst (q : Nat) (C : mm_ok g cc own ret nm nL fr lo mc ms) {n : Int} {v : Int32} (d : decode cc pc = .ok (.iconst n, 1)) (hv : Int32.ofInt n = v) (hq : pc + 1 = q) (k : mm_X g cells slots M q lv (mm_i v :: st)) : mm_X g cells slots M pc lv st := by
  subst hq
  obtain ⟨p, l, e, R, s, m, args, below, meth, c, G, cy, M0, nL, Q⟩ := g
  obtain ⟨hx, hb, -⟩ := C
  intro H locs ls a1 a2 a3 a4 hl
  exact lv_iconst hx hb d hv (k H locs ls a1 a2 a3 a4 hl)
theorem xr_bipush (q : Nat) (C : mm_ok g cc own ret nm nL fr lo mc ms) {n : Int} {v : Int32} (d : decode cc pc = .ok (.bipush n, 2)) (hv : (Int8.ofInt n).toInt32 = v) (hq : pc + 2 = q) (k : mm_X g cells slots M q lv (mm_i v :: st)) : mm_X g cells slots M pc lv st := by
  subst hq
  obtain ⟨p, l, e, R, s, m, args, below, meth, c, G, cy, M0, nL, Q⟩ := g
  obtain ⟨hx, hb, -⟩ := C
  intro H locs ls a1 a2 a3 a4 hl
  exact lv_bipush hx hb d hv (k H locs ls a1 a2 a3 a4 hl)
theorem xr_sipush (q : Nat) (C : mm_ok g cc own ret nm nL fr lo mc ms) {n : Int} {v : Int32} (d : decode cc pc = .ok (.sipush n, 3)) (hv : (Int16.ofInt n).toInt32 = v) (hq : pc + 3 = q) (k : mm_X g cells slots M q lv (mm_i v :: st)) : mm_X g cells slots M pc lv st := by
  subst hq
  obtain ⟨p, l, e, R, s, m, args, below, meth, c, G, cy, M0, nL, Q⟩ := g
  obtain ⟨hx, hb, -⟩ := C
  intro H locs ls a1 a2 a3 a4 hl
  exact lv_sipush hx hb d hv (k H locs ls a1 a2 a3 a4 hl)
theorem xr_lconst (q : Nat) (C : mm_ok g cc own ret nm nL fr lo mc ms) {n : Fin 2} {v : Int64} (d : decode cc pc = .ok (.lconst n, 1)) (hv : Int64.ofNat (n : Nat) = v) (hq : pc + 1 = q) (k : mm_X g cells slots M q lv (mm_j v :: st)) : mm_X g cells slots M pc lv st := by
  subst hq
  obtain ⟨p, l, e, R, s, m, args, below, meth, c, G, cy, M0, nL, Q⟩ := g
  obtain ⟨hx, hb, -⟩ := C
  intro H locs ls a1 a2 a3 a4 hl
  exact lv_lconst hx hb d hv (k H locs ls a1 a2 a3 a4 hl)
theorem xr_ldc (q : Nat) (C : mm_ok g cc own ret nm nL fr lo mc ms) {index : Nat} {v : Int32} (hw : Cond.constant own index v ∈ mm_gt) (d : decode cc pc = .ok (.ldc index, 2)) (hq : pc + 2 = q) (k : mm_X g cells slots M q lv (mm_i v :: st)) : mm_X g cells slots M pc lv st := by
  subst hq
  obtain ⟨p, l, e, R, s, m, args, below, meth, c, G, cy, M0, nL, Q⟩ := g
  obtain ⟨hx, hb, -, -, hown, hts, -⟩ := C
  intro H locs ls a1 a2 a3 a4 hl
  exact lv_ldc hx hb hown (hts _ hw) d (k H locs ls a1 a2 a3 a4 hl)
theorem xr_ldc2 (q : Nat) (C : mm_ok g cc own ret nm nL fr lo mc ms) {index : Nat} {v : Int64} (hw : Cond.constantLong own index v ∈ mm_gt) (d : decode cc pc = .ok (.ldc2_w index, 3)) (hq : pc + 3 = q) (k : mm_X g cells slots M q lv (mm_j v :: st)) : mm_X g cells slots M pc lv st := by
  subst hq
  obtain ⟨p, l, e, R, s, m, args, below, meth, c, G, cy, M0, nL, Q⟩ := g
  obtain ⟨hx, hb, -, -, hown, hts, -⟩ := C
  intro H locs ls a1 a2 a3 a4 hl
  exact lv_ldc2 hx hb hown (hts _ hw) d (k H locs ls a1 a2 a3 a4 hl)
theorem xr_null (q : Nat) (C : mm_ok g cc own ret nm nL fr lo mc ms) (d : decode cc pc = .ok (.aconst_null, 1)) (hq : pc + 1 = q) (k : mm_X g cells slots M q lv (mm_r none :: st)) : mm_X g cells slots M pc lv st := by
  subst hq
  obtain ⟨p, l, e, R, s, m, args, below, meth, c, G, cy, M0, nL, Q⟩ := g
  obtain ⟨hx, hb, -⟩ := C
  intro H locs ls a1 a2 a3 a4 hl
  exact lv_null hx hb d (k H locs ls a1 a2 a3 a4 hl)
theorem xr_iload_n (q at_ : Nat) (C : mm_ok g cc own ret nm nL fr lo mc ms) {kk : Fin 4} {i : Nat} {x : Int32} (d : decode cc pc = .ok (.iload_n kk, 1)) (hi : (kk : Nat) = i) (hl0 : lv[at_]? = some (i, mm_i x)) (hq : pc + 1 = q) (k : mm_X g cells slots M q lv (mm_i x :: st)) : mm_X g cells slots M pc lv st := by
  subst hq
  obtain ⟨p, l, e, R, s, m, args, below, meth, c, G, cy, M0, nL, Q⟩ := g
  obtain ⟨hx, hb, -⟩ := C
  intro H locs ls a1 a2 a3 a4 hl
  exact lv_iload_n hx hb d hi (xr_lat hl hl0) (k H locs ls a1 a2 a3 a4 hl)
theorem xr_iload (q at_ : Nat) (C : mm_ok g cc own ret nm nL fr lo mc ms) {i : Nat} {x : Int32} (d : decode cc pc = .ok (.iload i, 2)) (hl0 : lv[at_]? = some (i, mm_i x)) (hq : pc + 2 = q) (k : mm_X g cells slots M q lv (mm_i x :: st)) : mm_X g cells slots M pc lv st := by
  subst hq
  obtain ⟨p, l, e, R, s, m, args, below, meth, c, G, cy, M0, nL, Q⟩ := g
  obtain ⟨hx, hb, -⟩ := C
  intro H locs ls a1 a2 a3 a4 hl
  exact lv_iload hx hb d (xr_lat hl hl0) (k H locs ls a1 a2 a3 a4 hl)
theorem xr_lload_n (q at_ : Nat) (C : mm_ok g cc own ret nm nL fr lo mc ms) {kk : Fin 4} {i : Nat} {x : Int64} (d : decode cc pc = .ok (.lload_n kk, 1)) (hi : (kk : Nat) = i) (hl0 : lv[at_]? = some (i, mm_j x)) (hq : pc + 1 = q) (k : mm_X g cells slots M q lv (mm_j x :: st)) : mm_X g cells slots M pc lv st := by
  subst hq
  obtain ⟨p, l, e, R, s, m, args, below, meth, c, G, cy, M0, nL, Q⟩ := g
  obtain ⟨hx, hb, -⟩ := C
  intro H locs ls a1 a2 a3 a4 hl
  exact lv_lload_n hx hb d hi (xr_lat hl hl0) (k H locs ls a1 a2 a3 a4 hl)
theorem xr_lload (q at_ : Nat) (C : mm_ok g cc own ret nm nL fr lo mc ms) {i : Nat} {x : Int64} (d : decode cc pc = .ok (.lload i, 2)) (hl0 : lv[at_]? = some (i, mm_j x)) (hq : pc + 2 = q) (k : mm_X g cells slots M q lv (mm_j x :: st)) : mm_X g cells slots M pc lv st := by
  subst hq
  obtain ⟨p, l, e, R, s, m, args, below, meth, c, G, cy, M0, nL, Q⟩ := g
  obtain ⟨hx, hb, -⟩ := C
  intro H locs ls a1 a2 a3 a4 hl
  exact lv_lload hx hb d (xr_lat hl hl0) (k H locs ls a1 a2 a3 a4 hl)
theorem xr_aload_n (q at_ : Nat) (C : mm_ok g cc own ret nm nL fr lo mc ms) {kk : Fin 4} {i : Nat} {x : Option Nat} (d : decode cc pc = .ok (.aload_n kk, 1)) (hi : (kk : Nat) = i) (hl0 : lv[at_]? = some (i, mm_r x)) (hq : pc + 1 = q) (k : mm_X g cells slots M q lv (mm_r x :: st)) : mm_X g cells slots M pc lv st := by
  subst hq
  obtain ⟨p, l, e, R, s, m, args, below, meth, c, G, cy, M0, nL, Q⟩ := g
  obtain ⟨hx, hb, -⟩ := C
  intro H locs ls a1 a2 a3 a4 hl
  have h5 := xr_lat hl hl0
  have h6 := k H locs ls a1 a2 a3 a4 hl
  cases x with
  | none => exact lv_aload_nN hx hb d hi h5 h6
  | some y => exact lv_aload_n hx hb d hi h5 h6
theorem xr_aload (q at_ : Nat) (C : mm_ok g cc own ret nm nL fr lo mc ms) {i : Nat} {x : Option Nat} (d : decode cc pc = .ok (.aload i, 2)) (hl0 : lv[at_]? = some (i, mm_r x)) (hq : pc + 2 = q) (k : mm_X g cells slots M q lv (mm_r x :: st)) : mm_X g cells slots M pc lv st := by
  subst hq
  obtain ⟨p, l, e, R, s, m, args, below, meth, c, G, cy, M0, nL, Q⟩ := g
  obtain ⟨hx, hb, -⟩ := C
  intro H locs ls a1 a2 a3 a4 hl
  have h5 := xr_lat hl hl0
  have h6 := k H locs ls a1 a2 a3 a4 hl
  cases x with
  | none => exact lv_aloadN hx hb d h5 h6
  | some y => exact lv_aload hx hb d h5 h6
/-- what a store of one slot leaves of the list -/
def mm_f1 (i : Nat) (lv : List (Nat × mm_V)) : List (Nat × mm_V) := lv.filter (fun q => !(q.1 == i) && !(q.1 + 1 == i && mm_cat q.2 == 2))
def mm_f2 (i : Nat) (lv : List (Nat × mm_V)) : List (Nat × mm_V) := lv.filter (fun q => !(q.1 == i) && (!(q.1 == i + 1) && !(q.1 + 1 == i && mm_cat q.2 == 2)))
theorem mm_f1_eq (i : Nat) (lv : List (Nat × mm_V)) : (mm_lv lv).filter (fun q => !(q.1 == i) && !(q.1 + 1 == i && q.2.category == 2)) = mm_lv (mm_f1 i lv) := by
  simp only [mm_lv, mm_f1, List.filter_map]
  congr 1
  apply List.filter_congr
  intro q _
  simp only [Function.comp, mm_val_cat]
theorem mm_f2_eq (i : Nat) (lv : List (Nat × mm_V)) : (mm_lv lv).filter (fun q => !(q.1 == i) && (!(q.1 == i + 1) && !(q.1 + 1 == i && q.2.category == 2))) = mm_lv (mm_f2 i lv) := by
  simp only [mm_lv, mm_f2, List.filter_map]
  congr 1
  apply List.filter_congr
  intro q _
  simp only [Function.comp, mm_val_cat]
theorem xr_istore_n (q : Nat) (C : mm_ok g cc own ret nm nL fr lo mc ms) {kk : Fin 4} {i : Nat} {x : Int32} (d : decode cc pc = .ok (.istore_n kk, 1)) (hi : (kk : Nat) = i) (hn : i < nL) (hq : pc + 1 = q) (lv2 : List (Nat × mm_V)) (h2 : (i, mm_i x) :: mm_f1 i lv = lv2) (k : mm_X g cells slots M q lv2 st) : mm_X g cells slots M pc lv (mm_i x :: st) := by
  subst hq
  subst h2
  obtain ⟨p, l, e, R, s, m, args, below, meth, c, G, cy, M0, nL2, Q⟩ := g
  obtain ⟨hx, hb, -, rfl, -⟩ := C
  intro H locs ls a1 a2 a3 a4 hl
  exact lv_istore_n (lv' := mm_lv ((i, mm_i x) :: mm_f1 i lv)) hx hb d hi hl hn (by rw [mm_f1_eq]; rfl) (fun ls2 h5 => k H locs ls2 a1 a2 a3 a4 h5)
theorem xr_istore (q : Nat) (C : mm_ok g cc own ret nm nL fr lo mc ms) {i : Nat} {x : Int32} (d : decode cc pc = .ok (.istore i, 2)) (hn : i < nL) (hq : pc + 2 = q) (lv2 : List (Nat × mm_V)) (h2 : (i, mm_i x) :: mm_f1 i lv = lv2) (k : mm_X g cells slots M q lv2 st) : mm_X g cells slots M pc lv (mm_i x :: st) := by
  subst hq
  subst h2
  obtain ⟨p, l, e, R, s, m, args, below, meth, c, G, cy, M0, nL2, Q⟩ := g
  obtain ⟨hx, hb, -, rfl, -⟩ := C
  intro H locs ls a1 a2 a3 a4 hl
  exact lv_istore (lv' := mm_lv ((i, mm_i x) :: mm_f1 i lv)) hx hb d hl hn (by rw [mm_f1_eq]; rfl) (fun ls2 h5 => k H locs ls2 a1 a2 a3 a4 h5)
theorem xr_lstore_n (q : Nat) (C : mm_ok g cc own ret nm nL fr lo mc ms) {kk : Fin 4} {i : Nat} {x : Int64} (d : decode cc pc = .ok (.lstore_n kk, 1)) (hi : (kk : Nat) = i) (hn : i + 1 < nL) (hq : pc + 1 = q) (lv2 : List (Nat × mm_V)) (h2 : (i, mm_j x) :: mm_f2 i lv = lv2) (k : mm_X g cells slots M q lv2 st) : mm_X g cells slots M pc lv (mm_j x :: st) := by
  subst hq
  subst h2
  obtain ⟨p, l, e, R, s, m, args, below, meth, c, G, cy, M0, nL2, Q⟩ := g
  obtain ⟨hx, hb, -, rfl, -⟩ := C
  intro H locs ls a1 a2 a3 a4 hl
  exact lv_lstore_n (lv' := mm_lv ((i, mm_j x) :: mm_f2 i lv)) hx hb d hi hl hn (by rw [mm_f2_eq]; rfl) (fun ls2 h5 => k H locs ls2 a1 a2 a3 a4 h5)
theorem xr_lstore (q : Nat) (C : mm_ok g cc own ret nm nL fr lo mc ms) {i : Nat} {x : Int64} (d : decode cc pc = .ok (.lstore i, 2)) (hn : i + 1 < nL) (hq : pc + 2 = q) (lv2 : List (Nat × mm_V)) (h2 : (i, mm_j x) :: mm_f2 i lv = lv2) (k : mm_X g cells slots M q lv2 st) : mm_X g cells slots M pc lv (mm_j x :: st) := by
  subst hq
  subst h2
  obtain ⟨p, l, e, R, s, m, args, below, meth, c, G, cy, M0, nL2, Q⟩ := g
  obtain ⟨hx, hb, -, rfl, -⟩ := C
  intro H locs ls a1 a2 a3 a4 hl
  exact lv_lstore (lv' := mm_lv ((i, mm_j x) :: mm_f2 i lv)) hx hb d hl hn (by rw [mm_f2_eq]; rfl) (fun ls2 h5 => k H locs ls2 a1 a2 a3 a4 h5)
theorem xr_astore_n (q : Nat) (C : mm_ok g cc own ret nm nL fr lo mc ms) {kk : Fin 4} {i : Nat} {x : Option Nat} (d : decode cc pc = .ok (.astore_n kk, 1)) (hi : (kk : Nat) = i) (hn : i < nL) (hq : pc + 1 = q) (lv2 : List (Nat × mm_V)) (h2 : (i, mm_r x) :: mm_f1 i lv = lv2) (k : mm_X g cells slots M q lv2 st) : mm_X g cells slots M pc lv (mm_r x :: st) := by
  subst hq
  subst h2
  obtain ⟨p, l, e, R, s, m, args, below, meth, c, G, cy, M0, nL2, Q⟩ := g
  obtain ⟨hx, hb, -, rfl, -⟩ := C
  intro H locs ls a1 a2 a3 a4 hl
  cases x with
  | none => exact lv_astore_nN (lv' := mm_lv ((i, mm_r none) :: mm_f1 i lv)) hx hb d hi hl hn (by rw [mm_f1_eq]; rfl) (fun ls2 h5 => k H locs ls2 a1 a2 a3 a4 h5)
  | some y => exact lv_astore_n (lv' := mm_lv ((i, mm_r (some y)) :: mm_f1 i lv)) hx hb d hi hl hn (by rw [mm_f1_eq]; rfl) (fun ls2 h5 => k H locs ls2 a1 a2 a3 a4 h5)
theorem xr_astore (q : Nat) (C : mm_ok g cc own ret nm nL fr lo mc ms) {i : Nat} {x : Option Nat} (d : decode cc pc = .ok (.astore i, 2)) (hn : i < nL) (hq : pc + 2 = q) (lv2 : List (Nat × mm_V)) (h2 : (i, mm_r x) :: mm_f1 i lv = lv2) (k : mm_X g cells slots M q lv2 st) : mm_X g cells slots M pc lv (mm_r x :: st) := by
  subst hq
  subst h2
  obtain ⟨p, l, e, R, s, m, args, below, meth, c, G, cy, M0, nL2, Q⟩ := g
  obtain ⟨hx, hb, -, rfl, -⟩ := C
  intro H locs ls a1 a2 a3 a4 hl
  cases x with
  | none => exact lv_astoreN (lv' := mm_lv ((i, mm_r none) :: mm_f1 i lv)) hx hb d hl hn (by rw [mm_f1_eq]; rfl) (fun ls2 h5 => k H locs ls2 a1 a2 a3 a4 h5)
  | some y => exact lv_astore (lv' := mm_lv ((i, mm_r (some y)) :: mm_f1 i lv)) hx hb d hl hn (by rw [mm_f1_eq]; rfl) (fun ls2 h5 => k H locs ls2 a1 a2 a3 a4 h5)
theorem xr_iinc (q at_ : Nat) (C : mm_ok g cc own ret nm nL fr lo mc ms) {i : Nat} {n : Int} {x v : Int32} (d : decode cc pc = .ok (.iinc i n, 3)) (hl0 : lv[at_]? = some (i, mm_i x)) (hn : i < nL) (hv : Int32.ofInt n = v) (hq : pc + 3 = q) (lv2 : List (Nat × mm_V)) (h2 : (i, mm_i (x + v)) :: mm_f1 i lv = lv2) (k : mm_X g cells slots M q lv2 st) : mm_X g cells slots M pc lv st := by
  subst hq
  subst h2
  subst hv
  obtain ⟨p, l, e, R, s, m, args, below, meth, c, G, cy, M0, nL2, Q⟩ := g
  obtain ⟨hx, hb, -, rfl, -⟩ := C
  intro H locs ls a1 a2 a3 a4 hl
  exact lv_iinc (lv' := mm_lv ((i, mm_i (x + Int32.ofInt n)) :: mm_f1 i lv)) hx hb d hl (k := at_) (by rw [List.getElem?_map, hl0]; rfl) rfl hn (by rw [mm_f1_eq]; rfl) (fun ls2 h5 => k H locs ls2 a1 a2 a3 a4 h5)
end
end
section
section
variable {g : mm_c} {cc : ByteArray} {own nm : String} {ret : Option FieldType} {nL fr lo mc ms cells slots : Nat} {M : mm_M} {pc : Nat} {lv : List (Nat × mm_V)} {st : List mm_V}
theorem xr_iadd (q : Nat) (C : mm_ok g cc own ret nm nL fr lo mc ms) {x y : Int32} (d : decode cc pc = .ok (.iadd, 1)) (hq : pc + 1 = q) (k : mm_X g cells slots M q lv (mm_i (x + y) :: st)) : mm_X g cells slots M pc lv (mm_i y :: mm_i x :: st) := by
  subst hq
  obtain ⟨p, l, e, R, s, m, args, below, meth, c, G, cy, M0, nL, Q⟩ := g
  obtain ⟨hx, hb, -⟩ := C
  intro H locs ls a1 a2 a3 a4 hl
  exact lv_iadd hx hb d (k H locs ls a1 a2 a3 a4 hl)
theorem xr_isub (q : Nat) (C : mm_ok g cc own ret nm nL fr lo mc ms) {x y : Int32} (d : decode cc pc = .ok (.isub, 1)) (hq : pc + 1 = q) (k : mm_X g cells slots M q lv (mm_i (x - y) :: st)) : mm_X g cells slots M pc lv (mm_i y :: mm_i x :: st) := by
  subst hq
  obtain ⟨p, l, e, R, s, m, args, below, meth, c, G, cy, M0, nL, Q⟩ := g
  obtain ⟨hx, hb, -⟩ := C
  intro H locs ls a1 a2 a3 a4 hl
  exact lv_isub hx hb d (k H locs ls a1 a2 a3 a4 hl)
theorem xr_imul (q : Nat) (C : mm_ok g cc own ret nm nL fr lo mc ms) {x y : Int32} (d : decode cc pc = .ok (.imul, 1)) (hq : pc + 1 = q) (k : mm_X g cells slots M q lv (mm_i (x * y) :: st)) : mm_X g cells slots M pc lv (mm_i y :: mm_i x :: st) := by
  subst hq
  obtain ⟨p, l, e, R, s, m, args, below, meth, c, G, cy, M0, nL, Q⟩ := g
  obtain ⟨hx, hb, -⟩ := C
  intro H locs ls a1 a2 a3 a4 hl
  exact lv_imul hx hb d (k H locs ls a1 a2 a3 a4 hl)
theorem xr_iand (q : Nat) (C : mm_ok g cc own ret nm nL fr lo mc ms) {x y : Int32} (d : decode cc pc = .ok (.iand, 1)) (hq : pc + 1 = q) (k : mm_X g cells slots M q lv (mm_i (x &&& y) :: st)) : mm_X g cells slots M pc lv (mm_i y :: mm_i x :: st) := by
  subst hq
  obtain ⟨p, l, e, R, s, m, args, below, meth, c, G, cy, M0, nL, Q⟩ := g
  obtain ⟨hx, hb, -⟩ := C
  intro H locs ls a1 a2 a3 a4 hl
  exact lv_iand hx hb d (k H locs ls a1 a2 a3 a4 hl)
theorem xr_ishl (q : Nat) (C : mm_ok g cc own ret nm nL fr lo mc ms) {x y : Int32} (d : decode cc pc = .ok (.ishl, 1)) (hq : pc + 1 = q) (k : mm_X g cells slots M q lv (mm_i (x <<< (y &&& 31)) :: st)) : mm_X g cells slots M pc lv (mm_i y :: mm_i x :: st) := by
  subst hq
  obtain ⟨p, l, e, R, s, m, args, below, meth, c, G, cy, M0, nL, Q⟩ := g
  obtain ⟨hx, hb, -⟩ := C
  intro H locs ls a1 a2 a3 a4 hl
  exact lv_ishl hx hb d (k H locs ls a1 a2 a3 a4 hl)
theorem xr_ishr (q : Nat) (C : mm_ok g cc own ret nm nL fr lo mc ms) {x y : Int32} (d : decode cc pc = .ok (.ishr, 1)) (hq : pc + 1 = q) (k : mm_X g cells slots M q lv (mm_i (x >>> (y &&& 31)) :: st)) : mm_X g cells slots M pc lv (mm_i y :: mm_i x :: st) := by
  subst hq
  obtain ⟨p, l, e, R, s, m, args, below, meth, c, G, cy, M0, nL, Q⟩ := g
  obtain ⟨hx, hb, -⟩ := C
  intro H locs ls a1 a2 a3 a4 hl
  exact lv_ishr hx hb d (k H locs ls a1 a2 a3 a4 hl)
theorem xr_idiv (q : Nat) (C : mm_ok g cc own ret nm nL fr lo mc ms) {x y : Int32} (d : decode cc pc = .ok (.idiv, 1)) (hne : ¬ y = 0) (hq : pc + 1 = q) (k : mm_X g cells slots M q lv (mm_i (x / y) :: st)) : mm_X g cells slots M pc lv (mm_i y :: mm_i x :: st) := by
  subst hq
  obtain ⟨p, l, e, R, s, m, args, below, meth, c, G, cy, M0, nL, Q⟩ := g
  obtain ⟨hx, hb, -⟩ := C
  intro H locs ls a1 a2 a3 a4 hl
  exact lv_idiv hx hb d hne (k H locs ls a1 a2 a3 a4 hl)
theorem xr_irem (q : Nat) (C : mm_ok g cc own ret nm nL fr lo mc ms) {x y : Int32} (d : decode cc pc = .ok (.irem, 1)) (hne : ¬ y = 0) (hq : pc + 1 = q) (k : mm_X g cells slots M q lv (mm_i (x - x / y * y) :: st)) : mm_X g cells slots M pc lv (mm_i y :: mm_i x :: st) := by
  subst hq
  obtain ⟨p, l, e, R, s, m, args, below, meth, c, G, cy, M0, nL, Q⟩ := g
  obtain ⟨hx, hb, -⟩ := C
  intro H locs ls a1 a2 a3 a4 hl
  exact lv_irem hx hb d hne (k H locs ls a1 a2 a3 a4 hl)
theorem xr_ladd (q : Nat) (C : mm_ok g cc own ret nm nL fr lo mc ms) {x y : Int64} (d : decode cc pc = .ok (.ladd, 1)) (hq : pc + 1 = q) (k : mm_X g cells slots M q lv (mm_j (x + y) :: st)) : mm_X g cells slots M pc lv (mm_j y :: mm_j x :: st) := by
  subst hq
  obtain ⟨p, l, e, R, s, m, args, below, meth, c, G, cy, M0, nL, Q⟩ := g
  obtain ⟨hx, hb, -⟩ := C
  intro H locs ls a1 a2 a3 a4 hl
  exact lv_ladd hx hb d (k H locs ls a1 a2 a3 a4 hl)
theorem xr_lsub (q : Nat) (C : mm_ok g cc own ret nm nL fr lo mc ms) {x y : Int64} (d : decode cc pc = .ok (.lsub, 1)) (hq : pc + 1 = q) (k : mm_X g cells slots M q lv (mm_j (x - y) :: st)) : mm_X g cells slots M pc lv (mm_j y :: mm_j x :: st) := by
  subst hq
  obtain ⟨p, l, e, R, s, m, args, below, meth, c, G, cy, M0, nL, Q⟩ := g
  obtain ⟨hx, hb, -⟩ := C
  intro H locs ls a1 a2 a3 a4 hl
  exact lv_lsub hx hb d (k H locs ls a1 a2 a3 a4 hl)
theorem xr_lmul (q : Nat) (C : mm_ok g cc own ret nm nL fr lo mc ms) {x y : Int64} (d : decode cc pc = .ok (.lmul, 1)) (hq : pc + 1 = q) (k : mm_X g cells slots M q lv (mm_j (x * y) :: st)) : mm_X g cells slots M pc lv (mm_j y :: mm_j x :: st) := by
  subst hq
  obtain ⟨p, l, e, R, s, m, args, below, meth, c, G, cy, M0, nL, Q⟩ := g
  obtain ⟨hx, hb, -⟩ := C
  intro H locs ls a1 a2 a3 a4 hl
  exact lv_lmul hx hb d (k H locs ls a1 a2 a3 a4 hl)
theorem xr_ldiv (q : Nat) (C : mm_ok g cc own ret nm nL fr lo mc ms) {x y : Int64} (d : decode cc pc = .ok (.ldiv, 1)) (hne : ¬ y = 0) (hq : pc + 1 = q) (k : mm_X g cells slots M q lv (mm_j (x / y) :: st)) : mm_X g cells slots M pc lv (mm_j y :: mm_j x :: st) := by
  subst hq
  obtain ⟨p, l, e, R, s, m, args, below, meth, c, G, cy, M0, nL, Q⟩ := g
  obtain ⟨hx, hb, -⟩ := C
  intro H locs ls a1 a2 a3 a4 hl
  exact lv_ldiv hx hb d hne (k H locs ls a1 a2 a3 a4 hl)
theorem xr_lrem (q : Nat) (C : mm_ok g cc own ret nm nL fr lo mc ms) {x y : Int64} (d : decode cc pc = .ok (.lrem, 1)) (hne : ¬ y = 0) (hq : pc + 1 = q) (k : mm_X g cells slots M q lv (mm_j (x - x / y * y) :: st)) : mm_X g cells slots M pc lv (mm_j y :: mm_j x :: st) := by
  subst hq
  obtain ⟨p, l, e, R, s, m, args, below, meth, c, G, cy, M0, nL, Q⟩ := g
  obtain ⟨hx, hb, -⟩ := C
  intro H locs ls a1 a2 a3 a4 hl
  exact lv_lrem hx hb d hne (k H locs ls a1 a2 a3 a4 hl)
theorem xr_i2l (q : Nat) (C : mm_ok g cc own ret nm nL fr lo mc ms) {x : Int32} (d : decode cc pc = .ok (.i2l, 1)) (hq : pc + 1 = q) (k : mm_X g cells slots M q lv (mm_j x.toInt64 :: st)) : mm_X g cells slots M pc lv (mm_i x :: st) := by
  subst hq
  obtain ⟨p, l, e, R, s, m, args, below, meth, c, G, cy, M0, nL, Q⟩ := g
  obtain ⟨hx, hb, -⟩ := C
  intro H locs ls a1 a2 a3 a4 hl
  exact lv_i2l hx hb d rfl (k H locs ls a1 a2 a3 a4 hl)
theorem xr_l2i (q : Nat) (C : mm_ok g cc own ret nm nL fr lo mc ms) {x : Int64} (d : decode cc pc = .ok (.l2i, 1)) (hq : pc + 1 = q) (k : mm_X g cells slots M q lv (mm_i x.toInt32 :: st)) : mm_X g cells slots M pc lv (mm_j x :: st) := by
  subst hq
  obtain ⟨p, l, e, R, s, m, args, below, meth, c, G, cy, M0, nL, Q⟩ := g
  obtain ⟨hx, hb, -⟩ := C
  intro H locs ls a1 a2 a3 a4 hl
  exact lv_l2i hx hb d rfl (k H locs ls a1 a2 a3 a4 hl)
theorem xr_lcmp (q : Nat) (C : mm_ok g cc own ret nm nL fr lo mc ms) {x y : Int64} (d : decode cc pc = .ok (.lcmp, 1)) (hq : pc + 1 = q) (k : mm_X g cells slots M q lv (mm_i (lg_cmp x y) :: st)) : mm_X g cells slots M pc lv (mm_j y :: mm_j x :: st) := by
  subst hq
  obtain ⟨p, l, e, R, s, m, args, below, meth, c, G, cy, M0, nL, Q⟩ := g
  obtain ⟨hx, hb, -⟩ := C
  intro H locs ls a1 a2 a3 a4 hl
  exact W.lcmp hx hb d (k H locs ls a1 a2 a3 a4 hl)
theorem xr_dup (q : Nat) (C : mm_ok g cc own ret nm nL fr lo mc ms) {v : mm_V} (d : decode cc pc = .ok (.dup, 1)) (hv : mm_cat v = 1) (hq : pc + 1 = q) (k : mm_X g cells slots M q lv (v :: v :: st)) : mm_X g cells slots M pc lv (v :: st) := by
  subst hq
  obtain ⟨p, l, e, R, s, m, args, below, meth, c, G, cy, M0, nL, Q⟩ := g
  obtain ⟨hx, hb, -⟩ := C
  intro H locs ls a1 a2 a3 a4 hl
  exact lv_dup hx hb d ((mm_val_cat v).trans hv) (k H locs ls a1 a2 a3 a4 hl)
theorem xr_pop (q : Nat) (C : mm_ok g cc own ret nm nL fr lo mc ms) {v : mm_V} (d : decode cc pc = .ok (.pop, 1)) (hv : mm_cat v = 1) (hq : pc + 1 = q) (k : mm_X g cells slots M q lv (st)) : mm_X g cells slots M pc lv (v :: st) := by
  subst hq
  obtain ⟨p, l, e, R, s, m, args, below, meth, c, G, cy, M0, nL, Q⟩ := g
  obtain ⟨hx, hb, -⟩ := C
  intro H locs ls a1 a2 a3 a4 hl
  exact lv_pop hx hb d ((mm_val_cat v).trans hv) (k H locs ls a1 a2 a3 a4 hl)
theorem xr_dup_x1 (q : Nat) (C : mm_ok g cc own ret nm nL fr lo mc ms) {v w : mm_V} (d : decode cc pc = .ok (.dup_x1, 1)) (hv : mm_cat v = 1) (hw : mm_cat w = 1) (hq : pc + 1 = q) (k : mm_X g cells slots M q lv (v :: w :: v :: st)) : mm_X g cells slots M pc lv (v :: w :: st) := by
  subst hq
  obtain ⟨p, l, e, R, s, m, args, below, meth, c, G, cy, M0, nL, Q⟩ := g
  obtain ⟨hx, hb, -⟩ := C
  intro H locs ls a1 a2 a3 a4 hl
  exact lv_dup_x1 hx hb d ((mm_val_cat v).trans hv) ((mm_val_cat w).trans hw) (k H locs ls a1 a2 a3 a4 hl)
theorem xr_dup2_11 (q : Nat) (C : mm_ok g cc own ret nm nL fr lo mc ms) {v w : mm_V} (d : decode cc pc = .ok (.dup2, 1)) (hv : mm_cat v = 1) (hw : mm_cat w = 1) (hq : pc + 1 = q) (k : mm_X g cells slots M q lv (v :: w :: v :: w :: st)) : mm_X g cells slots M pc lv (v :: w :: st) := by
  subst hq
  obtain ⟨p, l, e, R, s, m, args, below, meth, c, G, cy, M0, nL, Q⟩ := g
  obtain ⟨hx, hb, -⟩ := C
  intro H locs ls a1 a2 a3 a4 hl
  exact lv_dup2_11 hx hb d ((mm_val_cat v).trans hv) ((mm_val_cat w).trans hw) (k H locs ls a1 a2 a3 a4 hl)
theorem xr_pop2_11 (q : Nat) (C : mm_ok g cc own ret nm nL fr lo mc ms) {v w : mm_V} (d : decode cc pc = .ok (.pop2, 1)) (hv : mm_cat v = 1) (hw : mm_cat w = 1) (hq : pc + 1 = q) (k : mm_X g cells slots M q lv (st)) : mm_X g cells slots M pc lv (v :: w :: st) := by
  subst hq
  obtain ⟨p, l, e, R, s, m, args, below, meth, c, G, cy, M0, nL, Q⟩ := g
  obtain ⟨hx, hb, -⟩ := C
  intro H locs ls a1 a2 a3 a4 hl
  exact lv_pop2_11 hx hb d ((mm_val_cat v).trans hv) ((mm_val_cat w).trans hw) (k H locs ls a1 a2 a3 a4 hl)
theorem xr_dup2_2 (q : Nat) (C : mm_ok g cc own ret nm nL fr lo mc ms) {v : mm_V} (d : decode cc pc = .ok (.dup2, 1)) (hv : mm_cat v = 2) (hq : pc + 1 = q) (k : mm_X g cells slots M q lv (v :: v :: st)) : mm_X g cells slots M pc lv (v :: st) := by
  subst hq
  obtain ⟨p, l, e, R, s, m, args, below, meth, c, G, cy, M0, nL, Q⟩ := g
  obtain ⟨hx, hb, -⟩ := C
  intro H locs ls a1 a2 a3 a4 hl
  exact lv_dup2_2 hx hb d ((mm_val_cat v).trans hv) (k H locs ls a1 a2 a3 a4 hl)
theorem xr_pop2_2 (q : Nat) (C : mm_ok g cc own ret nm nL fr lo mc ms) {v : mm_V} (d : decode cc pc = .ok (.pop2, 1)) (hv : mm_cat v = 2) (hq : pc + 1 = q) (k : mm_X g cells slots M q lv (st)) : mm_X g cells slots M pc lv (v :: st) := by
  subst hq
  obtain ⟨p, l, e, R, s, m, args, below, meth, c, G, cy, M0, nL, Q⟩ := g
  obtain ⟨hx, hb, -⟩ := C
  intro H locs ls a1 a2 a3 a4 hl
  exact lv_pop2_2 hx hb d ((mm_val_cat v).trans hv) (k H locs ls a1 a2 a3 a4 hl)
theorem xr_goto (tgt : Nat) (C : mm_ok g cc own ret nm nL fr lo mc ms) {off : Int} (d : decode cc pc = .ok (.goto off, 3)) (ht : (pc : Int) + off = (tgt : Int)) (k : mm_X g cells slots M tgt lv st) : mm_X g cells slots M pc lv st := by
  obtain ⟨p, l, e, R, s, m, args, below, meth, c, G, cy, M0, nL, Q⟩ := g
  obtain ⟨hx, hb, -⟩ := C
  intro H locs ls a1 a2 a3 a4 hl
  exact lv_goto hx hb d ht (k H locs ls a1 a2 a3 a4 hl)
theorem xr_icmp_eq (tgt q : Nat) (C : mm_ok g cc own ret nm nL fr lo mc ms) {x y : Int32} {off : Int} (d : decode cc pc = .ok (.if_icmp .eq off, 3)) (ht : (pc : Int) + off = (tgt : Int)) (hq : pc + 3 = q) (kt : x = y → mm_X g cells slots M tgt lv st) (kf : ¬ x = y → mm_X g cells slots M q lv st) : mm_X g cells slots M pc lv (mm_i y :: mm_i x :: st) := by
  subst hq
  obtain ⟨p, l, e, R, s, m, args, below, meth, c, G, cy, M0, nL, Q⟩ := g
  obtain ⟨hx, hb, -⟩ := C
  intro H locs ls a1 a2 a3 a4 hl
  exact lv_icmp_eq hx hb d ht (fun h => kt h H locs ls a1 a2 a3 a4 hl) (fun h => kf h H locs ls a1 a2 a3 a4 hl)
theorem xr_if_eq (tgt q : Nat) (C : mm_ok g cc own ret nm nL fr lo mc ms) {x : Int32} {off : Int} (d : decode cc pc = .ok (.ifCond .eq off, 3)) (ht : (pc : Int) + off = (tgt : Int)) (hq : pc + 3 = q) (kt : x = 0 → mm_X g cells slots M tgt lv st) (kf : ¬ x = 0 → mm_X g cells slots M q lv st) : mm_X g cells slots M pc lv (mm_i x :: st) := by
  subst hq
  obtain ⟨p, l, e, R, s, m, args, below, meth, c, G, cy, M0, nL, Q⟩ := g
  obtain ⟨hx, hb, -⟩ := C
  intro H locs ls a1 a2 a3 a4 hl
  exact lv_if_eq hx hb d ht (fun h => kt h H locs ls a1 a2 a3 a4 hl) (fun h => kf h H locs ls a1 a2 a3 a4 hl)
theorem xr_icmp_ne (tgt q : Nat) (C : mm_ok g cc own ret nm nL fr lo mc ms) {x y : Int32} {off : Int} (d : decode cc pc = .ok (.if_icmp .ne off, 3)) (ht : (pc : Int) + off = (tgt : Int)) (hq : pc + 3 = q) (kt : ¬ x = y → mm_X g cells slots M tgt lv st) (kf : x = y → mm_X g cells slots M q lv st) : mm_X g cells slots M pc lv (mm_i y :: mm_i x :: st) := by
  subst hq
  obtain ⟨p, l, e, R, s, m, args, below, meth, c, G, cy, M0, nL, Q⟩ := g
  obtain ⟨hx, hb, -⟩ := C
  intro H locs ls a1 a2 a3 a4 hl
  exact lv_icmp_ne hx hb d ht (fun h => kt h H locs ls a1 a2 a3 a4 hl) (fun h => kf h H locs ls a1 a2 a3 a4 hl)
theorem xr_if_ne (tgt q : Nat) (C : mm_ok g cc own ret nm nL fr lo mc ms) {x : Int32} {off : Int} (d : decode cc pc = .ok (.ifCond .ne off, 3)) (ht : (pc : Int) + off = (tgt : Int)) (hq : pc + 3 = q) (kt : ¬ x = 0 → mm_X g cells slots M tgt lv st) (kf : x = 0 → mm_X g cells slots M q lv st) : mm_X g cells slots M pc lv (mm_i x :: st) := by
  subst hq
  obtain ⟨p, l, e, R, s, m, args, below, meth, c, G, cy, M0, nL, Q⟩ := g
  obtain ⟨hx, hb, -⟩ := C
  intro H locs ls a1 a2 a3 a4 hl
  exact lv_if_ne hx hb d ht (fun h => kt h H locs ls a1 a2 a3 a4 hl) (fun h => kf h H locs ls a1 a2 a3 a4 hl)
theorem xr_icmp_lt (tgt q : Nat) (C : mm_ok g cc own ret nm nL fr lo mc ms) {x y : Int32} {off : Int} (d : decode cc pc = .ok (.if_icmp .lt off, 3)) (ht : (pc : Int) + off = (tgt : Int)) (hq : pc + 3 = q) (kt : x < y → mm_X g cells slots M tgt lv st) (kf : ¬ x < y → mm_X g cells slots M q lv st) : mm_X g cells slots M pc lv (mm_i y :: mm_i x :: st) := by
  subst hq
  obtain ⟨p, l, e, R, s, m, args, below, meth, c, G, cy, M0, nL, Q⟩ := g
  obtain ⟨hx, hb, -⟩ := C
  intro H locs ls a1 a2 a3 a4 hl
  exact lv_icmp_lt hx hb d ht (fun h => kt h H locs ls a1 a2 a3 a4 hl) (fun h => kf h H locs ls a1 a2 a3 a4 hl)
theorem xr_if_lt (tgt q : Nat) (C : mm_ok g cc own ret nm nL fr lo mc ms) {x : Int32} {off : Int} (d : decode cc pc = .ok (.ifCond .lt off, 3)) (ht : (pc : Int) + off = (tgt : Int)) (hq : pc + 3 = q) (kt : x < 0 → mm_X g cells slots M tgt lv st) (kf : ¬ x < 0 → mm_X g cells slots M q lv st) : mm_X g cells slots M pc lv (mm_i x :: st) := by
  subst hq
  obtain ⟨p, l, e, R, s, m, args, below, meth, c, G, cy, M0, nL, Q⟩ := g
  obtain ⟨hx, hb, -⟩ := C
  intro H locs ls a1 a2 a3 a4 hl
  exact lv_if_lt hx hb d ht (fun h => kt h H locs ls a1 a2 a3 a4 hl) (fun h => kf h H locs ls a1 a2 a3 a4 hl)
theorem xr_icmp_ge (tgt q : Nat) (C : mm_ok g cc own ret nm nL fr lo mc ms) {x y : Int32} {off : Int} (d : decode cc pc = .ok (.if_icmp .ge off, 3)) (ht : (pc : Int) + off = (tgt : Int)) (hq : pc + 3 = q) (kt : y ≤ x → mm_X g cells slots M tgt lv st) (kf : ¬ y ≤ x → mm_X g cells slots M q lv st) : mm_X g cells slots M pc lv (mm_i y :: mm_i x :: st) := by
  subst hq
  obtain ⟨p, l, e, R, s, m, args, below, meth, c, G, cy, M0, nL, Q⟩ := g
  obtain ⟨hx, hb, -⟩ := C
  intro H locs ls a1 a2 a3 a4 hl
  exact lv_icmp_ge hx hb d ht (fun h => kt h H locs ls a1 a2 a3 a4 hl) (fun h => kf h H locs ls a1 a2 a3 a4 hl)
theorem xr_if_ge (tgt q : Nat) (C : mm_ok g cc own ret nm nL fr lo mc ms) {x : Int32} {off : Int} (d : decode cc pc = .ok (.ifCond .ge off, 3)) (ht : (pc : Int) + off = (tgt : Int)) (hq : pc + 3 = q) (kt : 0 ≤ x → mm_X g cells slots M tgt lv st) (kf : ¬ 0 ≤ x → mm_X g cells slots M q lv st) : mm_X g cells slots M pc lv (mm_i x :: st) := by
  subst hq
  obtain ⟨p, l, e, R, s, m, args, below, meth, c, G, cy, M0, nL, Q⟩ := g
  obtain ⟨hx, hb, -⟩ := C
  intro H locs ls a1 a2 a3 a4 hl
  exact lv_if_ge hx hb d ht (fun h => kt h H locs ls a1 a2 a3 a4 hl) (fun h => kf h H locs ls a1 a2 a3 a4 hl)
theorem xr_icmp_gt (tgt q : Nat) (C : mm_ok g cc own ret nm nL fr lo mc ms) {x y : Int32} {off : Int} (d : decode cc pc = .ok (.if_icmp .gt off, 3)) (ht : (pc : Int) + off = (tgt : Int)) (hq : pc + 3 = q) (kt : y < x → mm_X g cells slots M tgt lv st) (kf : ¬ y < x → mm_X g cells slots M q lv st) : mm_X g cells slots M pc lv (mm_i y :: mm_i x :: st) := by
  subst hq
  obtain ⟨p, l, e, R, s, m, args, below, meth, c, G, cy, M0, nL, Q⟩ := g
  obtain ⟨hx, hb, -⟩ := C
  intro H locs ls a1 a2 a3 a4 hl
  exact lv_icmp_gt hx hb d ht (fun h => kt h H locs ls a1 a2 a3 a4 hl) (fun h => kf h H locs ls a1 a2 a3 a4 hl)
theorem xr_if_gt (tgt q : Nat) (C : mm_ok g cc own ret nm nL fr lo mc ms) {x : Int32} {off : Int} (d : decode cc pc = .ok (.ifCond .gt off, 3)) (ht : (pc : Int) + off = (tgt : Int)) (hq : pc + 3 = q) (kt : 0 < x → mm_X g cells slots M tgt lv st) (kf : ¬ 0 < x → mm_X g cells slots M q lv st) : mm_X g cells slots M pc lv (mm_i x :: st) := by
  subst hq
  obtain ⟨p, l, e, R, s, m, args, below, meth, c, G, cy, M0, nL, Q⟩ := g
  obtain ⟨hx, hb, -⟩ := C
  intro H locs ls a1 a2 a3 a4 hl
  exact lv_if_gt hx hb d ht (fun h => kt h H locs ls a1 a2 a3 a4 hl) (fun h => kf h H locs ls a1 a2 a3 a4 hl)
theorem xr_icmp_le (tgt q : Nat) (C : mm_ok g cc own ret nm nL fr lo mc ms) {x y : Int32} {off : Int} (d : decode cc pc = .ok (.if_icmp .le off, 3)) (ht : (pc : Int) + off = (tgt : Int)) (hq : pc + 3 = q) (kt : x ≤ y → mm_X g cells slots M tgt lv st) (kf : ¬ x ≤ y → mm_X g cells slots M q lv st) : mm_X g cells slots M pc lv (mm_i y :: mm_i x :: st) := by
  subst hq
  obtain ⟨p, l, e, R, s, m, args, below, meth, c, G, cy, M0, nL, Q⟩ := g
  obtain ⟨hx, hb, -⟩ := C
  intro H locs ls a1 a2 a3 a4 hl
  exact lv_icmp_le hx hb d ht (fun h => kt h H locs ls a1 a2 a3 a4 hl) (fun h => kf h H locs ls a1 a2 a3 a4 hl)
theorem xr_if_le (tgt q : Nat) (C : mm_ok g cc own ret nm nL fr lo mc ms) {x : Int32} {off : Int} (d : decode cc pc = .ok (.ifCond .le off, 3)) (ht : (pc : Int) + off = (tgt : Int)) (hq : pc + 3 = q) (kt : x ≤ 0 → mm_X g cells slots M tgt lv st) (kf : ¬ x ≤ 0 → mm_X g cells slots M q lv st) : mm_X g cells slots M pc lv (mm_i x :: st) := by
  subst hq
  obtain ⟨p, l, e, R, s, m, args, below, meth, c, G, cy, M0, nL, Q⟩ := g
  obtain ⟨hx, hb, -⟩ := C
  intro H locs ls a1 a2 a3 a4 hl
  exact lv_if_le hx hb d ht (fun h => kt h H locs ls a1 a2 a3 a4 hl) (fun h => kf h H locs ls a1 a2 a3 a4 hl)
theorem xr_acmp_eq (tgt q : Nat) (C : mm_ok g cc own ret nm nL fr lo mc ms) {x y : Option Nat} {off : Int} (d : decode cc pc = .ok (.if_acmp .eq off, 3)) (ht : (pc : Int) + off = (tgt : Int)) (hq : pc + 3 = q) (kt : x = y → mm_X g cells slots M tgt lv st) (kf : ¬ x = y → mm_X g cells slots M q lv st) : mm_X g cells slots M pc lv (mm_r y :: mm_r x :: st) := by
  subst hq
  obtain ⟨p, l, e, R, s, m, args, below, meth, c, G, cy, M0, nL, Q⟩ := g
  obtain ⟨hx, hb, -⟩ := C
  intro H locs ls a1 a2 a3 a4 hl
  exact lv_acmp_eq hx hb d ht (fun h => kt h H locs ls a1 a2 a3 a4 hl) (fun h => kf h H locs ls a1 a2 a3 a4 hl)
theorem xr_acmp_ne (tgt q : Nat) (C : mm_ok g cc own ret nm nL fr lo mc ms) {x y : Option Nat} {off : Int} (d : decode cc pc = .ok (.if_acmp .ne off, 3)) (ht : (pc : Int) + off = (tgt : Int)) (hq : pc + 3 = q) (kt : ¬ x = y → mm_X g cells slots M tgt lv st) (kf : x = y → mm_X g cells slots M q lv st) : mm_X g cells slots M pc lv (mm_r y :: mm_r x :: st) := by
  subst hq
  obtain ⟨p, l, e, R, s, m, args, below, meth, c, G, cy, M0, nL, Q⟩ := g
  obtain ⟨hx, hb, -⟩ := C
  intro H locs ls a1 a2 a3 a4 hl
  exact lv_acmp_ne hx hb d ht (fun h => kt h H locs ls a1 a2 a3 a4 hl) (fun h => kf h H locs ls a1 a2 a3 a4 hl)
theorem xr_ifnull (tgt q : Nat) (C : mm_ok g cc own ret nm nL fr lo mc ms) {x : Option Nat} {off : Int} (d : decode cc pc = .ok (.ifnull off, 3)) (ht : (pc : Int) + off = (tgt : Int)) (hq : pc + 3 = q) (kt : x = none → mm_X g cells slots M tgt lv st) (kf : ¬ x = none → mm_X g cells slots M q lv st) : mm_X g cells slots M pc lv (mm_r x :: st) := by
  subst hq
  obtain ⟨p, l, e, R, s, m, args, below, meth, c, G, cy, M0, nL, Q⟩ := g
  obtain ⟨hx, hb, -⟩ := C
  intro H locs ls a1 a2 a3 a4 hl
  cases x with
  | none => exact lv_ifnullN hx hb d ht (kt rfl H locs ls a1 a2 a3 a4 hl)
  | some y => exact lv_ifnull hx hb d (kf (fun h => by cases h) H locs ls a1 a2 a3 a4 hl)
theorem xr_ifnonnull (tgt q : Nat) (C : mm_ok g cc own ret nm nL fr lo mc ms) {x : Option Nat} {off : Int} (d : decode cc pc = .ok (.ifnonnull off, 3)) (ht : (pc : Int) + off = (tgt : Int)) (hq : pc + 3 = q) (kt : ¬ x = none → mm_X g cells slots M tgt lv st) (kf : x = none → mm_X g cells slots M q lv st) : mm_X g cells slots M pc lv (mm_r x :: st) := by
  subst hq
  obtain ⟨p, l, e, R, s, m, args, below, meth, c, G, cy, M0, nL, Q⟩ := g
  obtain ⟨hx, hb, -⟩ := C
  intro H locs ls a1 a2 a3 a4 hl
  cases x with
  | none => exact lv_ifnonnullN hx hb d (kf rfl H locs ls a1 a2 a3 a4 hl)
  | some y => exact lv_ifnonnull hx hb d ht (kt (fun h => by cases h) H locs ls a1 a2 a3 a4 hl)
theorem xr_tin (tgt : Nat) (C : mm_ok g cc own ret nm nL fr lo mc ms) {dflt lo_ hi_ : Int} {offs : Array Int} {len : Nat} {x v : Int32} {off : Int} (d : decode cc pc = .ok (.tableswitch dflt lo_ hi_ offs, len)) (hv : x = v) (h1 : ¬ v.toInt < lo_) (h2 : ¬ hi_ < v.toInt) (ho : offs[(v.toInt - lo_).toNat]? = some off) (ht : (pc : Int) + off = (tgt : Int)) (k : mm_X g cells slots M tgt lv st) : mm_X g cells slots M pc lv (mm_i x :: st) := by
  subst hv
  obtain ⟨p, l, e, R, s, m, args, below, meth, c, G, cy, M0, nL, Q⟩ := g
  obtain ⟨hx, hb, -⟩ := C
  intro H locs ls a1 a2 a3 a4 hl
  exact lv_tableIn hx hb d h1 h2 ho ht (k H locs ls a1 a2 a3 a4 hl)
theorem xr_tout (tgt : Nat) (C : mm_ok g cc own ret nm nL fr lo mc ms) {dflt lo_ hi_ : Int} {offs : Array Int} {len : Nat} {x : Int32} (d : decode cc pc = .ok (.tableswitch dflt lo_ hi_ offs, len)) (h : x.toInt < lo_ ∨ hi_ < x.toInt) (ht : (pc : Int) + dflt = (tgt : Int)) (k : mm_X g cells slots M tgt lv st) : mm_X g cells slots M pc lv (mm_i x :: st) := by
  obtain ⟨p, l, e, R, s, m, args, below, meth, c, G, cy, M0, nL, Q⟩ := g
  obtain ⟨hx, hb, -⟩ := C
  intro H locs ls a1 a2 a3 a4 hl
  exact lv_tableOut hx hb d h ht (k H locs ls a1 a2 a3 a4 hl)
end
theorem mm_swd (x : Int32) (n : Nat) (hn : n < 2 ^ 31) (h : ∀ k, k ≤ n → ¬ x = nI k) : x.toInt < 0 ∨ (n : Int) < x.toInt := by
  rcases Int.lt_or_le x.toInt 0 with h0 | h0
  · exact Or.inl h0
  · rcases Int.lt_or_le (n : Int) x.toInt with h1 | h1
    · exact Or.inr h1
    · exfalso
      obtain ⟨j, hj⟩ : ∃ j : Nat, x.toInt = (j : Int) := ⟨x.toInt.toNat, by omega⟩
      refine h j (by omega) (Int32.toInt_inj.mp ?_)
      rw [nI_toInt (by omega), hj]
end
section
theorem mm_pl_at {L : List Nat} {f : Nat → va_E} {k : Nat} {q : Nat × va_E} (h : (va_pl L f)[k]? = some q) : ∃ b, L[k]? = some b ∧ q = (b, f b) := by
  simp only [va_pl, List.getElem?_map] at h
  obtain ⟨b, hb, e⟩ := Option.map_eq_some_iff.mp h
  exact ⟨b, hb, e.symm⟩
theorem mm_pl_D {A B : Nat → Prop} {L : List Nat} {f f2 : Nat → va_E} (h : va_D A (va_pl L f)) (hB : ∀ b ∈ L, B b) : va_D B (va_pl L f2) := by
  refine ⟨fun i j x y hi hj hxy => ?_, fun k q hk => ?_⟩
  · obtain ⟨b, hb, rfl⟩ := mm_pl_at hi
    obtain ⟨b2, hb2, rfl⟩ := mm_pl_at hj
    exact h.1 i j (b, f b) (b2, f b2) (by simp [va_pl, hb]) (by simp [va_pl, hb2]) hxy
  · obtain ⟨b, hb, rfl⟩ := mm_pl_at hk
    exact hB b (List.mem_of_getElem? hb)
theorem mm_wr {G : va_G} {cy : Nat → ClassId} {M M1 : mm_M} {H H1 : Heap} {a : Nat} (h : mm_h G cy M H) (hk : M1.1 = M.1) (hn : mm_n M1 = mm_n M) (hc : ∀ b, b ≠ a → mm_ce cy M1 b = mm_ce cy M b)
    (hat : va_at G vwCl (a, mm_ce cy M1 a) H1) (hz : H1.size = H.size) (ho : ∀ q, q ≠ a → H1[q]? = H[q]?) : mm_h G cy M1 H1 := by
  obtain ⟨h0, L, hL, hP, hD⟩ := h
  refine ⟨by rw [hz, h0, hn], L, by rw [hk]; exact hL, fun i q hi => ?_, mm_pl_D hD fun b hb => ?_⟩
  · obtain ⟨b, hb, rfl⟩ := mm_pl_at hi
    by_cases e : b = a
    · subst e
      exact hat
    · rw [hc b e]
      have hp : va_at G vwCl (b, mm_ce cy M b) H := hP i _ (by simp [va_pl, hb])
      exact hp.kept (ho b e)
  · obtain ⟨k, n, e, hk2⟩ := (hL b).mp hb
    exact Or.inl ⟨k, n, by rw [hk]; exact e, hk2⟩
theorem mm_step_w {G : va_G} {cy : Nat → ClassId} {M0 M M1 : mm_M} {s : State} {H H1 : Heap} {locs : List Loc} {a k n j : Nat} (h1 : mm_h G cy M H) (h2 : mm_x M0 M) (h3 : mm_s (mm_D M0) M s H) (h4 : va_S (mm_D M0) s.heap H locs) (ha : M.1 a = some (k, n)) (hk18 : k < 18)
    (hk : M1.1 = M.1) (hn : mm_n M1 = mm_n M) (hz0 : mm_z M1 = mm_z M) (hc : ∀ b, b ≠ a → mm_ce cy M1 b = mm_ce cy M b) (hat : va_at G vwCl (a, mm_ce cy M1 a) H1) (hz : H1.size = H.size) (ho : ∀ q, q ≠ a → H1[q]? = H[q]?) :
    mm_h G cy M1 H1 ∧ mm_x M0 M1 ∧ mm_s (mm_D M0) M1 s H1 ∧ va_S (mm_D M0) s.heap H1 (locs ++ [⟨a, j⟩]) := by
  have hA : mm_D M0 a := h2.2.2 a (Or.inl ⟨k, n, ha, hk18⟩)
  refine ⟨mm_wr h1 hk hn hc hat hz ho, ?_, ?_, h4.put hz ho hA⟩
  · refine ⟨by rw [hn]; exact h2.1, by rw [hz0]; exact h2.2.1, fun q hq => h2.2.2 q ?_⟩
    simpa only [mm_D, hk, hn] using hq
  · have h5 := mm_s_kept h3 (H1 := H1) (fun b _ hb => ho b (fun e => hb (e ▸ hA)))
    obtain ⟨c1, c2, c3, c4⟩ := h5
    refine ⟨by rw [hk, hz0]; exact c1, by rw [hk, hz0]; exact c2, by rw [hz0]; exact c3, by rw [hz0]; exact c4⟩
/-- a new cell -/
theorem mm_step_n {G : va_G} {cy : Nat → ClassId} {M0 M : mm_M} {s : State} {H H1 : Heap} {locs : List Loc} {kd : Nat × Nat} (h1 : mm_h G cy M H) (h2 : mm_x M0 M) (h3 : mm_s (mm_D M0) M s H) (h4 : va_S (mm_D M0) s.heap H locs) (hk18 : kd.1 < 18)
    (hat : va_at G vwCl (mm_n M, mm_ce cy (mm_nw M kd) (mm_n M)) H1) (hz : H1.size = H.size + 1) (ho : ∀ q, q < H.size → H1[q]? = H[q]?) :
    mm_h G cy (mm_nw M kd) H1 ∧ mm_x M0 (mm_nw M kd) ∧ mm_s (mm_D M0) (mm_nw M kd) s H1 ∧ va_S (mm_D M0) s.heap H1 locs := by
  have hzl := mm_s_lt h3
  obtain ⟨h0, L, hL, hP, hD⟩ := id h1
  have hnot : mm_n M ∉ L := fun e => by
    obtain ⟨k, n, e2, hk⟩ := (hL _).mp e
    exact Nat.lt_irrefl _ (mm_h_lt h1 e2 hk)
  have hce : ∀ b, b ≠ mm_n M → mm_ce cy (mm_nw M kd) b = mm_ce cy M b := fun b hb => by
    refine mm_ce_ne (if_neg hb) ?_ ?_ ?_ <;> (funext j; exact if_neg hb)
  have hx : mm_x M0 (mm_nw M kd) := mm_x_tr h2 (mm_x_w M kd)
  have hk1 : ∀ b, b ≠ mm_n M → (mm_nw M kd).1 b = M.1 b := fun b hb => if_neg hb
  have hk2 : (mm_nw M kd).1 (mm_n M) = some kd := if_pos rfl
  refine ⟨⟨by rw [hz, h0]; rfl, L ++ [mm_n M], fun a => ?_, fun i q hi => ?_, ?_⟩, hx, ?_, ⟨by rw [hz]; exact Nat.le_succ_of_le h4.1, fun q q1 q2 => (ho q (Nat.lt_of_lt_of_le q1 h4.1)).trans (h4.2.1 q q1 q2), h4.2.2⟩⟩
  · rw [List.mem_append, List.mem_singleton, hL a]
    by_cases ha : a = mm_n M
    · subst ha
      rw [hk2]
      exact ⟨fun _ => ⟨kd.1, kd.2, rfl, hk18⟩, fun _ => Or.inr rfl⟩
    · rw [hk1 a ha]
      exact ⟨fun z => z.resolve_right ha, Or.inl⟩
  · obtain ⟨b, hb, rfl⟩ := mm_pl_at hi
    by_cases e : b = mm_n M
    · subst e
      exact hat
    · have hbL : b ∈ L := by
        rcases List.mem_append.mp (List.mem_of_getElem? hb) with z | z
        · exact z
        · exact absurd (List.mem_singleton.mp z) e
      obtain ⟨j, hj⟩ := List.getElem?_of_mem hbL
      rw [hce b e]
      have hp : va_at G vwCl (b, mm_ce cy M b) H := hP j _ (by simp [va_pl, hj])
      exact hp.kept (ho b hp.lt)
  · have hDL : va_D (fun _ => True) (va_pl (L ++ [mm_n M]) (mm_ce cy (mm_nw M kd))) := by
      have h5 := va_D.push (a := mm_n M) (e := mm_ce cy (mm_nw M kd) (mm_n M)) (hD.weaken (B := fun _ => True) fun _ _ _ _ => trivial) hP h0.symm trivial
      rw [va_pl_push hnot] at h5
      exact mm_pl_D h5 fun _ _ => trivial
    refine mm_pl_D hDL fun b hb => ?_
    rcases List.mem_append.mp hb with z | z
    · obtain ⟨k, n, e, hk⟩ := (hL b).mp z
      refine Or.inl ⟨k, n, ?_, hk⟩
      rw [hk1 b (fun e2 => hnot (e2 ▸ z))]
      exact e
    · rw [List.mem_singleton.mp z]
      exact Or.inl ⟨kd.1, kd.2, hk2, hk18⟩
  · have h5 := mm_s_kept h3 (H1 := H1) (fun b hb _ => ho b hb)
    obtain ⟨c1, c2, c3, c4⟩ := h5
    have hzn : mm_z M ≠ mm_n M := by omega
    refine ⟨by show (mm_nw M kd).1 (mm_z M) = _; rw [hk1 _ hzn]; exact c1, fun a n e => ?_, c3, c4⟩
    by_cases ha : a = mm_n M
    · subst ha
      rw [hk2] at e
      have e3 : kd.1 = 18 := by rw [Option.some.inj e]
      omega
    · rw [hk1 a ha] at e
      exact c2 a n e
-- fields: what the tables say of one
def mm_own (own : String) (ci k : Nat) : Prop := ∀ q, vwCl[ci]? = some q → (q.2.1 k).1 = own
def mm_F (own : String) (idx ci k : Nat) (fin : Bool) (t : Nat) : Prop := ∃ (C : String) (T : u_T) (N : Nat) (ty : Nat → FieldType) (ref : String), vwCl[ci]? = some (C, T, N) ∧ ci < 12 ∧ k < N ∧ (mm_ft ci).length = N ∧ (∀ w ∈ u_ws C T N, w ∈ mm_gt) ∧ (∀ k, k < N → parseFieldDescriptor (T k).2.2.1 = some (ty k)) ∧ (∀ a, a < N → ∀ b, b < N → a ≠ b → (T a).2.1 ≠ (T b).2.1) ∧ (T k).2.2.2 = fin ∧
  ((T k).1 = ref ∨ Cond.sameField ref (T k).1 (T k).2.1 (T k).2.2.1 ∈ mm_gt) ∧ (Cond.fieldLink own idx ref (T k).2.1 (T k).2.2.1 ∈ mm_gt ∨ True ∧ ∃ host, Cond.fieldLinkNest own idx ref (T k).2.1 (T k).2.2.1 host ∈ mm_nt) ∧
  (mm_ft ci)[k]? = some (if t = 1 then 1 else 0) ∧ (t = 0 → ty k = .int) ∧ (t = 2 → ty k = .boolean) ∧ (t = 1 → (∃ n, ty k = .object n) ∨ ∃ u, ty k = .array u)
section
variable {p : Program} {l : Launch} {e : Env} {R : Room} {s : State} {m : MethodId} {args : Array Value} {below : List Frame} {meth : Method} {c : Code} {H : Heap} {locs : List Loc} {cells slots : Nat} {Q : State → Prop}
variable {cc : ByteArray} {pc : Nat} {ls : Array Slot} {rest : List Value} {G : va_G} {cy : Nat → ClassId} {a : Nat}
theorem mm_same {T : u_T} {k : Nat} {ref : String} (hts : ∀ w ∈ mm_gt, w.before args s = true) (h : (T k).1 = ref ∨ Cond.sameField ref (T k).1 (T k).2.1 (T k).2.2.1 ∈ mm_gt) : ∀ x, s.fieldFound? (T k).1 (T k).2.1 (T k).2.2.1 = some x → s.fieldFound? ref (T k).2.1 (T k).2.2.1 = some x := by
  intro x hx
  rcases h with h | h
  · rw [← h]; exact hx
  · exact u_same (hts _ h) x hx
theorem mm_getW {own : String} {idx ci k t : Nat} {fin : Bool} {fs : List Value} {v : Value} (hexec : p.tables.exec = Jvm.exec) (hb : c.code = cc) (hts : ∀ w ∈ mm_gt, w.before args s = true) (hown : s.vm.findClass own = some m.cls) (hv : mm_v G cy s) (F : mm_F own idx ci k fin t) (hat : va_P G vwCl [(a, .inr (ci, fs))] H) (hfs : fs[k]? = some v) (hdg : decode cc pc = .ok (.getfield idx, 3))
    (kk : W p l e R s m args below meth c H locs cells slots Q (F0 m (pc + 3) ls (v :: rest))) : W p l e R s m args below meth c H locs cells slots Q (F0 m pc ls (.ref a :: rest)) := by
  obtain ⟨C, T, N, ty, ref, hc, -, hk, -, hin, -, -, -, hsm, hlk, -⟩ := F
  rcases hlk with hlk | ⟨-, host, hlk⟩
  · exact va_get hexec hb hts hin hown hv.1 hat 0 rfl hc k hk (hts _ hlk) (mm_same hts hsm) hfs hdg kk
  · exact va_getN hexec hb hts hin hown hv.1 hat 0 rfl hc k hk (va_Nw.use rfl (hv.2.1 _ hlk)) (mm_same hts hsm) hfs hdg kk
theorem mm_putW {own : String} {idx ci k t : Nat} {fin : Bool} {fs : List Value} {v : Value} (hexec : p.tables.exec = Jvm.exec) (hb : c.code = cc) (hts : ∀ w ∈ mm_gt, w.before args s = true) (hown : s.vm.findClass own = some m.cls) (hv : mm_v G cy s) (F : mm_F own idx ci k fin t) (hfin : fin = true → meth.name = "<init>" ∧ mm_own own ci k) (hat : va_at G vwCl (a, .inr (ci, fs)) H) (hl : fs.length = (mm_ft ci).length)
    (hnf : ∀ ty : FieldType, (t = 0 → ty = .int) → (t = 2 → ty = .boolean) → (t = 1 → (∃ n, ty = .object n) ∨ ∃ u, ty = .array u) → narrow ty v = v ∧ fits ty v = true) (hdg : decode cc pc = .ok (.putfield idx, 3))
    (kk : ∀ (H1 : Heap) (j : Nat), va_at G vwCl (a, .inr (ci, fs.set k v)) H1 → H1.size = H.size → (∀ q, q ≠ a → H1[q]? = H[q]?) → W p l e R s m args below meth c H1 (locs ++ [⟨a, j⟩]) cells slots Q (F0 m (pc + 3) ls rest)) : W p l e R s m args below meth c H locs cells slots Q (F0 m pc ls (v :: .ref a :: rest)) := by
  obtain ⟨C, T, N, ty, ref, hc, -, hk, hN, hin, hty, hnm, hf, hsm, hlk, -, t0, t2, t1⟩ := F
  obtain ⟨hn, hfit⟩ := hnf (ty k) t0 t2 t1
  have hd := hty k hk
  have hl2 : k < fs.length := by rw [hl, hN]; exact hk
  have hK := hv.1
  have hap := va_apart (own := own) hts hin ty hty hnm hK hc
  obtain ⟨r, h1, cell, q1, q2, q3, q4⟩ := hat
  have hr : r = (C, T, N) := Option.some.inj (h1.symm.trans hc)
  subst hr
  obtain ⟨hS, hfc, kC, hkC, hkind⟩ := hK.1 ci _ hc
  obtain ⟨cf, kf, fi, f, hi, hsl⟩ := hS k hk
  have hlay := hts _ (hin _ (u_in_lay hk))
  unfold u_lay at hlay
  have hst := (u_facts hfc hkC (u_lays hts hin hk) hi).1
  have hgo : ∀ H' : Heap, H'[a]? = some (cell.setSlot f.slot v) → va_at G vwCl (a, .inr (ci, fs.set k v)) H' := fun H' e1 => by
    rw [hsl] at e1
    exact ⟨_, hc, t_OB.to (V := updV (vp_V fs) k v) ⟨_, e1, q2, q3, t_set q4 hap hk v⟩ (fun j _ => vp_updV_set hl2 v j)⟩
  cases fin with
  | false =>
    rw [if_neg (by rw [hf]; decide)] at hlay
    have h6 := u_store hfc hkC hkind hlay hi hd hn hfit
    rcases hlk with hlk | ⟨-, host, hlk⟩
    · exact W.putK hexec hb (f := f) ⟨hown, hts _ hlk, ⟨_, _, _, mm_same hts hsm _ hi⟩, hst⟩ (by rw [q2]; exact h6) q1 q3 (by rw [hsl]; exact k2_hasslot (q4 k hk)) rfl rfl hdg fun H' e1 e2 e3 => kk H' _ (hgo H' e1) e2 e3
    · exact va_WputK hexec hb (f := f) hown (va_Nw.use rfl (hv.2.1 _ hlk)) (mm_same hts hsm _ hi) hst (by rw [q2]; exact h6) q1 q3 (by rw [hsl]; exact k2_hasslot (q4 k hk)) rfl rfl hdg fun H' e1 e2 e3 => kk H' _ (hgo H' e1) e2 e3
  | true =>
    rw [if_pos hf] at hlay
    have hcf : m.cls = cf := by
      obtain ⟨_, _, c', _, _, _, -, -, hf', -, -, -, hown2, -⟩ := Cond.laysFinal_spec hlay
      have e1 : c' = cf := by have := hi.symm.trans hf'; simp at this; exact this.1.symm
      rw [show (T k).1 = own from (hfin rfl).2 _ hc] at hown2
      rw [← e1]; exact Option.some.inj (hown.symm.trans hown2)
    have h6 := u_fits hfc hkC hkind (Or.inr hlay) hi hd hn hfit
    rcases hlk with hlk | ⟨-, host, hlk⟩
    · exact W.putFinK hexec hb hown (hts _ hlk) (mm_same hts hsm _ hi) hst hcf (hfin rfl).1 (by rw [q2]; exact h6) q1 q3 (by rw [hsl]; exact k2_hasslot (q4 k hk)) rfl rfl hdg fun H' e1 e2 e3 => kk H' _ (hgo H' e1) e2 e3
    · refine va_Wputf hexec hb hown (va_Nw.use rfl (hv.2.1 _ hlk)) (mm_same hts hsm _ hi) hst (Or.inr ⟨hcf, (hfin rfl).1⟩) q1 (by rw [q3]; exact fun h => by cases h) (by rw [hsl]; exact k2_hasslot (q4 k hk)) h6.1 (by rw [q3, q2]; exact h6.2) rfl rfl hdg ?_
      have ha : a < H.size := (Array.getElem?_eq_some_iff.mp q1).1
      exact kk _ _ (hgo _ (by simp [Array.getElem?_setIfInBounds, ha])) (by simp) (fun q hq => by simp [Array.getElem?_setIfInBounds, Ne.symm hq])
end
end
section
section
variable {g : mm_c} {cc : ByteArray} {own nm : String} {ret : Option FieldType} {nL fr lo mc ms cells slots : Nat} {M M1 : mm_M} {pc : Nat} {lv : List (Nat × mm_V)} {st : List mm_V}
theorem xr_getI (q : Nat) (C : mm_ok g cc own ret nm nL fr lo mc ms) {idx ci k t : Nat} {fin : Bool} {r : Option Nat} {v : Int32} (F : mm_F own idx ci k fin t) (ht : (if t = 1 then 1 else 0) = 0) (hf : mm_fI M r ci k = some v) (d : decode cc pc = .ok (.getfield idx, 3)) (hq : pc + 3 = q) (kk : mm_X g cells slots M q lv (mm_i v :: st)) : mm_X g cells slots M pc lv (mm_r r :: st) := by
  subst hq
  obtain ⟨p, l, e, R, s, m, args, below, meth, c, G, cy, M0, nL2, Q⟩ := g
  obtain ⟨hx, hb, hml, hnl, hown, hts, hv, hlk, hr, hnm, hsz, hR⟩ := C
  cases r with
  | none => cases hf
  | some a =>
    unfold mm_fI at hf
    simp only at hf
    split at hf
    case isFalse => cases hf
    case isTrue hk =>
      have hvv := (Option.some.inj hf).symm
      subst hvv
      intro H locs ls a1 a2 a3 a4 hl
      have hci : ci < 12 := by obtain ⟨_, _, _, _, _, _, h, -⟩ := F; exact h
      have hft : (mm_ft ci)[k]? = some 0 := by obtain ⟨_, _, _, _, _, _, _, _, _, _, _, _, _, _, _, h, -⟩ := F; rw [h, ht]
      have hat := mm_h_at a1 hk (by omega)
      rw [mm_ce_obj hk hci] at hat
      refine mm_getW (fs := mm_fl (mm_ft ci) 0 (M.2.1 a) (M.2.2.1 a)) hx hb hts hown hv F hat (v := mm_val (mm_i (mm_I M a k))) ?_ d (kk H locs ls a1 a2 a3 a4 hl)
      rw [mm_fl_get, hft, Nat.zero_add]
      rfl
theorem xr_getR (q : Nat) (C : mm_ok g cc own ret nm nL fr lo mc ms) {idx ci k t : Nat} {fin : Bool} {r : Option Nat} {v : Option Nat} (F : mm_F own idx ci k fin t) (ht : (if t = 1 then 1 else 0) = 1) (hf : mm_fR M r ci k = some v) (d : decode cc pc = .ok (.getfield idx, 3)) (hq : pc + 3 = q) (kk : mm_X g cells slots M q lv (mm_r v :: st)) : mm_X g cells slots M pc lv (mm_r r :: st) := by
  subst hq
  obtain ⟨p, l, e, R, s, m, args, below, meth, c, G, cy, M0, nL2, Q⟩ := g
  obtain ⟨hx, hb, hml, hnl, hown, hts, hv, hlk, hr, hnm, hsz, hR⟩ := C
  cases r with
  | none => cases hf
  | some a =>
    unfold mm_fR at hf
    simp only at hf
    split at hf
    case isFalse => cases hf
    case isTrue hk =>
      have hvv := (Option.some.inj hf).symm
      subst hvv
      intro H locs ls a1 a2 a3 a4 hl
      have hci : ci < 12 := by obtain ⟨_, _, _, _, _, _, h, -⟩ := F; exact h
      have hft : (mm_ft ci)[k]? = some 1 := by obtain ⟨_, _, _, _, _, _, _, _, _, _, _, _, _, _, _, h, -⟩ := F; rw [h, ht]
      have hat := mm_h_at a1 hk (by omega)
      rw [mm_ce_obj hk hci] at hat
      refine mm_getW (fs := mm_fl (mm_ft ci) 0 (M.2.1 a) (M.2.2.1 a)) hx hb hts hown hv F hat (v := mm_val (mm_r (mm_R M a k))) ?_ d (kk H locs ls a1 a2 a3 a4 hl)
      rw [mm_fl_get, hft, Nat.zero_add]
      rfl
theorem xr_putI (q : Nat) (C : mm_ok g cc own ret nm nL fr lo mc ms) {idx ci k : Nat} {fin : Bool} {r : Option Nat} {v : Int32} (F : mm_F own idx ci k fin 0) (hfin : fin = true → nm = "<init>" ∧ mm_own own ci k) (hf : mm_pI M r ci k v = some M1) (d : decode cc pc = .ok (.putfield idx, 3)) (hq : pc + 3 = q) (kk : mm_X g cells slots M1 q lv st) : mm_X g cells slots M pc lv (mm_i v :: mm_r r :: st) := by
  subst hq
  obtain ⟨p, l, e, R, s, m, args, below, meth, c, G, cy, M0, nL2, Q⟩ := g
  obtain ⟨hx, hb, hml, hnl, hown, hts, hv, hlk, hr, hnm, hsz, hR⟩ := C
  cases r with
  | none => cases hf
  | some a =>
    unfold mm_pI at hf
    simp only at hf
    split at hf
    case isFalse => cases hf
    case isTrue hk =>
      have hvv := (Option.some.inj hf).symm
      subst hvv
      intro H locs ls a1 a2 a3 a4 hl
      have hci : ci < 12 := by obtain ⟨_, _, _, _, _, _, h, -⟩ := F; exact h
      have hft : (mm_ft ci)[k]? = some 0 := by obtain ⟨_, _, _, _, _, _, _, _, _, _, _, _, _, _, _, h, -⟩ := F; rw [h]; rfl
      have hka : M.1 a = some (ci, 0) := hk
      have hat := mm_h_at a1 hka (by omega) 0 _ rfl
      rw [mm_ce_obj hka hci] at hat
      have hce : mm_ce cy (mm_sI M a k v) a = .inr (ci, (mm_fl (mm_ft ci) 0 (M.2.1 a) (M.2.2.1 a)).set k (mm_val (mm_i v))) := by
        rw [mm_ce_obj (M := mm_sI M a k v) (k := ci) (n := 0) hka hci]
        show _ = Sum.inr (ci, (mm_fl (mm_ft ci) 0 (M.2.1 a) (M.2.2.1 a)).set k (Value.int v))
        rw [mm_fl_I hft]
        show Sum.inr (ci, mm_fl (mm_ft ci) 0 (mm_u M.2.1 a k v a) (M.2.2.1 a)) = _
        rw [mm_u_at]
      have hne : ∀ b, b ≠ a → mm_ce cy (mm_sI M a k v) b = mm_ce cy M b := fun b hb => by
        refine mm_ce_ne rfl ?_ ?_ rfl
        · exact mm_u_ne _ _ _ hb
        · rfl
      refine mm_putW (v := mm_val (mm_i v)) hx hb hts hown hv F (fun z => ⟨hnm.trans (hfin z).1, (hfin z).2⟩) hat (mm_fl_len _ _ _ _) (fun ty h0 _ _ => by rw [h0 rfl]; exact ⟨rfl, rfl⟩) d (fun H1 j e1 e2 e3 => ?_)
      obtain ⟨b1, b2, b3, b4⟩ := mm_step_w (M1 := mm_sI M a k v) (j := j) a1 a2 a3 a4 hka (by omega) rfl rfl rfl hne (by rw [hce]; exact e1) e2 e3
      exact kk H1 _ ls b1 b2 b3 b4 hl
theorem xr_putZ (q : Nat) (C : mm_ok g cc own ret nm nL fr lo mc ms) {idx ci k : Nat} {fin : Bool} {r : Option Nat} {v : Int32} (F : mm_F own idx ci k fin 2) (hfin : fin = true → nm = "<init>" ∧ mm_own own ci k) (hf : mm_pZ M r ci k v = some M1) (d : decode cc pc = .ok (.putfield idx, 3)) (hq : pc + 3 = q) (kk : mm_X g cells slots M1 q lv st) : mm_X g cells slots M pc lv (mm_i v :: mm_r r :: st) := by
  subst hq
  obtain ⟨p, l, e, R, s, m, args, below, meth, c, G, cy, M0, nL2, Q⟩ := g
  obtain ⟨hx, hb, hml, hnl, hown, hts, hv, hlk, hr, hnm, hsz, hR⟩ := C
  cases r with
  | none => cases hf
  | some a =>
    unfold mm_pZ at hf
    simp only at hf
    split at hf
    case isFalse => cases hf
    case isTrue hk =>
      have hvv := (Option.some.inj hf).symm
      subst hvv
      intro H locs ls a1 a2 a3 a4 hl
      have hci : ci < 12 := by obtain ⟨_, _, _, _, _, _, h, -⟩ := F; exact h
      have hft : (mm_ft ci)[k]? = some 0 := by obtain ⟨_, _, _, _, _, _, _, _, _, _, _, _, _, _, _, h, -⟩ := F; rw [h]; rfl
      have hka : M.1 a = some (ci, 0) := hk.1
      have hat := mm_h_at a1 hka (by omega) 0 _ rfl
      rw [mm_ce_obj hka hci] at hat
      have hce : mm_ce cy (mm_sI M a k v) a = .inr (ci, (mm_fl (mm_ft ci) 0 (M.2.1 a) (M.2.2.1 a)).set k (mm_val (mm_i v))) := by
        rw [mm_ce_obj (M := mm_sI M a k v) (k := ci) (n := 0) hka hci]
        show _ = Sum.inr (ci, (mm_fl (mm_ft ci) 0 (M.2.1 a) (M.2.2.1 a)).set k (Value.int v))
        rw [mm_fl_I hft]
        show Sum.inr (ci, mm_fl (mm_ft ci) 0 (mm_u M.2.1 a k v a) (M.2.2.1 a)) = _
        rw [mm_u_at]
      have hne : ∀ b, b ≠ a → mm_ce cy (mm_sI M a k v) b = mm_ce cy M b := fun b hb => by
        refine mm_ce_ne rfl ?_ ?_ rfl
        · exact mm_u_ne _ _ _ hb
        · rfl
      refine mm_putW (v := mm_val (mm_i v)) hx hb hts hown hv F (fun z => ⟨hnm.trans (hfin z).1, (hfin z).2⟩) hat (mm_fl_len _ _ _ _) (fun ty _ h2 _ => by rw [h2 rfl]; rcases hk.2 with z | z <;> (rw [z]; exact ⟨by decide, by decide⟩)) d (fun H1 j e1 e2 e3 => ?_)
      obtain ⟨b1, b2, b3, b4⟩ := mm_step_w (M1 := mm_sI M a k v) (j := j) a1 a2 a3 a4 hka (by omega) rfl rfl rfl hne (by rw [hce]; exact e1) e2 e3
      exact kk H1 _ ls b1 b2 b3 b4 hl
theorem xr_putR (q : Nat) (C : mm_ok g cc own ret nm nL fr lo mc ms) {idx ci k : Nat} {fin : Bool} {r : Option Nat} {v : Option Nat} (F : mm_F own idx ci k fin 1) (hfin : fin = true → nm = "<init>" ∧ mm_own own ci k) (hf : mm_pR M r ci k v = some M1) (d : decode cc pc = .ok (.putfield idx, 3)) (hq : pc + 3 = q) (kk : mm_X g cells slots M1 q lv st) : mm_X g cells slots M pc lv (mm_r v :: mm_r r :: st) := by
  subst hq
  obtain ⟨p, l, e, R, s, m, args, below, meth, c, G, cy, M0, nL2, Q⟩ := g
  obtain ⟨hx, hb, hml, hnl, hown, hts, hv, hlk, hr, hnm, hsz, hR⟩ := C
  cases r with
  | none => cases hf
  | some a =>
    unfold mm_pR at hf
    simp only at hf
    split at hf
    case isFalse => cases hf
    case isTrue hk =>
      have hvv := (Option.some.inj hf).symm
      subst hvv
      intro H locs ls a1 a2 a3 a4 hl
      have hci : ci < 12 := by obtain ⟨_, _, _, _, _, _, h, -⟩ := F; exact h
      have hft : (mm_ft ci)[k]? = some 1 := by obtain ⟨_, _, _, _, _, _, _, _, _, _, _, _, _, _, _, h, -⟩ := F; rw [h]; rfl
      have hka : M.1 a = some (ci, 0) := hk
      have hat := mm_h_at a1 hka (by omega) 0 _ rfl
      rw [mm_ce_obj hka hci] at hat
      have hce : mm_ce cy (mm_sR M a k v) a = .inr (ci, (mm_fl (mm_ft ci) 0 (M.2.1 a) (M.2.2.1 a)).set k (mm_val (mm_r v))) := by
        rw [mm_ce_obj (M := mm_sR M a k v) (k := ci) (n := 0) hka hci]
        show _ = Sum.inr (ci, (mm_fl (mm_ft ci) 0 (M.2.1 a) (M.2.2.1 a)).set k (va_rf v))
        rw [mm_fl_R hft]
        show Sum.inr (ci, mm_fl (mm_ft ci) 0 (M.2.1 a) (mm_u M.2.2.1 a k v a)) = _
        rw [mm_u_at]
      have hne : ∀ b, b ≠ a → mm_ce cy (mm_sR M a k v) b = mm_ce cy M b := fun b hb => by
        refine mm_ce_ne rfl ?_ ?_ rfl
        · rfl
        · exact mm_u_ne _ _ _ hb
      refine mm_putW (v := mm_val (mm_r v)) hx hb hts hown hv F (fun z => ⟨hnm.trans (hfin z).1, (hfin z).2⟩) hat (mm_fl_len _ _ _ _) (fun ty _ _ h1 => by rcases h1 rfl with ⟨n, z⟩ | ⟨u, z⟩ <;> (rw [z]; cases v <;> exact ⟨rfl, rfl⟩)) d (fun H1 j e1 e2 e3 => ?_)
      obtain ⟨b1, b2, b3, b4⟩ := mm_step_w (M1 := mm_sR M a k v) (j := j) a1 a2 a3 a4 hka (by omega) rfl rfl rfl hne (by rw [hce]; exact e1) e2 e3
      exact kk H1 _ ls b1 b2 b3 b4 hl
theorem xr_aldI (q : Nat) (C : mm_ok g cc own ret nm nL fr lo mc ms) {r : Option Nat} {i : Int32} {v : Int32} (hf : mm_aI M r 12 i = some v) (d : decode cc pc = .ok (.iaload, 1)) (hq : pc + 1 = q) (kk : mm_X g cells slots M q lv (mm_i v :: st)) : mm_X g cells slots M pc lv (mm_i i :: mm_r r :: st) := by
  subst hq
  obtain ⟨p, l, e, R, s, m, args, below, meth, c, G, cy, M0, nL2, Q⟩ := g
  obtain ⟨hx, hb, hml, hnl, hown, hts, hv, hlk, hr, hnm, hsz, hR⟩ := C
  cases r with
  | none => cases hf
  | some a =>
    unfold mm_aI at hf
    simp only at hf
    cases hk : mm_k M a with
    | none => rw [hk] at hf; cases hf
    | some w =>
      rw [hk] at hf
      simp only at hf
      split at hf
      case isFalse => cases hf
      case isTrue hc =>
        have hvv := (Option.some.inj hf).symm
        subst hvv
        obtain ⟨kd, n⟩ := w
        obtain ⟨rfl, hin⟩ := hc
        intro H locs ls a1 a2 a3 a4 hl
        have hat := mm_h_at a1 hk (by simp)
        rw [mm_ce_i hk] at hat
        exact va_iald hx hb hv.1 hat 0 0 rfl rfl hin d (kk H locs ls a1 a2 a3 a4 hl)
theorem xr_aldZ (q : Nat) (C : mm_ok g cc own ret nm nL fr lo mc ms) {r : Option Nat} {i : Int32} {v : Int32} (hf : mm_aI M r 14 i = some v) (d : decode cc pc = .ok (.baload, 1)) (hq : pc + 1 = q) (kk : mm_X g cells slots M q lv (mm_i v :: st)) : mm_X g cells slots M pc lv (mm_i i :: mm_r r :: st) := by
  subst hq
  obtain ⟨p, l, e, R, s, m, args, below, meth, c, G, cy, M0, nL2, Q⟩ := g
  obtain ⟨hx, hb, hml, hnl, hown, hts, hv, hlk, hr, hnm, hsz, hR⟩ := C
  cases r with
  | none => cases hf
  | some a =>
    unfold mm_aI at hf
    simp only at hf
    cases hk : mm_k M a with
    | none => rw [hk] at hf; cases hf
    | some w =>
      rw [hk] at hf
      simp only at hf
      split at hf
      case isFalse => cases hf
      case isTrue hc =>
        have hvv := (Option.some.inj hf).symm
        subst hvv
        obtain ⟨kd, n⟩ := w
        obtain ⟨rfl, hin⟩ := hc
        intro H locs ls a1 a2 a3 a4 hl
        have hat := mm_h_at a1 hk (by simp)
        rw [mm_ce_z hk] at hat
        exact va_zald hx hb hv.1 hat 0 2 rfl rfl hin d (kk H locs ls a1 a2 a3 a4 hl)
theorem xr_aldL (q : Nat) (C : mm_ok g cc own ret nm nL fr lo mc ms) {r : Option Nat} {i : Int32} {v : Int64} (hf : mm_aL M r i = some v) (d : decode cc pc = .ok (.laload, 1)) (hq : pc + 1 = q) (kk : mm_X g cells slots M q lv (mm_j v :: st)) : mm_X g cells slots M pc lv (mm_i i :: mm_r r :: st) := by
  subst hq
  obtain ⟨p, l, e, R, s, m, args, below, meth, c, G, cy, M0, nL2, Q⟩ := g
  obtain ⟨hx, hb, hml, hnl, hown, hts, hv, hlk, hr, hnm, hsz, hR⟩ := C
  cases r with
  | none => cases hf
  | some a =>
    unfold mm_aL at hf
    simp only at hf
    cases hk : mm_k M a with
    | none => rw [hk] at hf; cases hf
    | some w =>
      rw [hk] at hf
      simp only at hf
      split at hf
      case isFalse => cases hf
      case isTrue hc =>
        have hvv := (Option.some.inj hf).symm
        subst hvv
        obtain ⟨kd, n⟩ := w
        obtain ⟨rfl, hin⟩ := hc
        intro H locs ls a1 a2 a3 a4 hl
        have hat := mm_h_at a1 hk (by simp)
        rw [mm_ce_l hk] at hat
        exact va_lald hx hb hv.1 hat 0 1 rfl rfl hin d (kk H locs ls a1 a2 a3 a4 hl)
theorem xr_aldR (q : Nat) (C : mm_ok g cc own ret nm nL fr lo mc ms) {r : Option Nat} {i : Int32} {v : Option Nat} (kd : Nat) (hkd : 15 ≤ kd ∧ kd ≤ 17) (hf : mm_aR M r kd i = some v) (d : decode cc pc = .ok (.aaload, 1)) (hq : pc + 1 = q) (kk : mm_X g cells slots M q lv (mm_r v :: st)) : mm_X g cells slots M pc lv (mm_i i :: mm_r r :: st) := by
  subst hq
  obtain ⟨p, l, e, R, s, m, args, below, meth, c, G, cy, M0, nL2, Q⟩ := g
  obtain ⟨hx, hb, hml, hnl, hown, hts, hv, hlk, hr, hnm, hsz, hR⟩ := C
  cases r with
  | none => cases hf
  | some a =>
    unfold mm_aR at hf
    simp only at hf
    cases hk : mm_k M a with
    | none => rw [hk] at hf; cases hf
    | some w =>
      rw [hk] at hf
      simp only at hf
      split at hf
      case isFalse => cases hf
      case isTrue hc =>
        have hvv := (Option.some.inj hf).symm
        subst hvv
        obtain ⟨k2, n⟩ := w
        obtain ⟨rfl, hin⟩ := hc
        intro H locs ls a1 a2 a3 a4 hl
        have hat := mm_h_at a1 hk (by omega)
        rw [mm_ce_q hk hkd.1] at hat
        rcases (show k2 = 15 ∨ k2 = 16 ∨ k2 = 17 by omega) with rfl | rfl | rfl
        · exact va_aldq (C := "LessonCards$Learner") hx hb hv.1 hat 0 3 rfl rfl hin d (kk H locs ls a1 a2 a3 a4 hl)
        · exact va_aldq (C := "LessonCards$Memory") hx hb hv.1 hat 0 4 rfl rfl hin d (kk H locs ls a1 a2 a3 a4 hl)
        · exact va_aldq (C := "java/lang/Object") hx hb hv.1 hat 0 5 rfl rfl hin d (kk H locs ls a1 a2 a3 a4 hl)
theorem xr_astI (q : Nat) (C : mm_ok g cc own ret nm nL fr lo mc ms) {r : Option Nat} {i : Int32} {v : Int32} (hf : mm_tI M r i v = some M1) (d : decode cc pc = .ok (.iastore, 1)) (hq : pc + 1 = q) (kk : mm_X g cells slots M1 q lv st) : mm_X g cells slots M pc lv (mm_i v :: mm_i i :: mm_r r :: st) := by
  subst hq
  obtain ⟨p, l, e, R, s, m, args, below, meth, c, G, cy, M0, nL2, Q⟩ := g
  obtain ⟨hx, hb, hml, hnl, hown, hts, hv, hlk, hr, hnm, hsz, hR⟩ := C
  cases r with
  | none => cases hf
  | some a =>
    unfold mm_tI at hf
    simp only at hf
    cases hk : mm_k M a with
    | none => rw [hk] at hf; cases hf
    | some w =>
      rw [hk] at hf
      simp only at hf
      split at hf
      case isFalse => cases hf
      case isTrue hc =>
        have hvv := (Option.some.inj hf).symm
        subst hvv
        obtain ⟨kd, n⟩ := w
        obtain ⟨rfl, hin⟩ := hc
        intro H locs ls a1 a2 a3 a4 hl
        have hat := mm_h_at a1 hk (by simp)
        rw [mm_ce_i hk] at hat
        refine W.iast hx hb (hat 0 _ rfl) ((hv.1.2 0 _ rfl).1 n (fun j => .int (M.2.1 a j))) (fun z => by cases z) (by show ¬ (i < 0 ∨ (arrV _ _ _).slots.size ≤ _); rw [arrV_size]; exact hin) rfl rfl d fun H1 e1 e2 e3 => ?_
        have hce : mm_ce cy (mm_sI M a i.toNatClampNeg v) a = .inl (cy 12, n, .inl (fun j => if j = i.toNatClampNeg then v else M.2.1 a j)) := by
          rw [mm_ce_i (M := mm_sI M a i.toNatClampNeg v) hk]
          show Sum.inl (cy 12, n, Sum.inl (mm_u M.2.1 a i.toNatClampNeg v a)) = _
          rw [mm_u_at]
        have hne : ∀ b, b ≠ a → mm_ce cy (mm_sI M a i.toNatClampNeg v) b = mm_ce cy M b := fun b hb => by
          refine mm_ce_ne rfl ?_ rfl ?_
          · exact mm_u_ne _ _ _ hb
          · rfl
        obtain ⟨b1, b2, b3, b4⟩ := mm_step_w (M1 := mm_sI M a i.toNatClampNeg v) (j := i.toNatClampNeg) a1 a2 a3 a4 hk (by simp) rfl rfl rfl hne (by
          rw [hce]
          show H1[a]? = some (vp_cell _ _)
          skip
          skip
          rw [e1, vp_cell_i, vp_cell_i, arrV_store]
          congr 2
          funext z
          by_cases hz : z = i.toNatClampNeg
          · subst hz
            simp [updV]
          · simp [updV, hz]) e2 e3
        exact kk H1 _ ls b1 b2 b3 b4 hl
theorem xr_astZ (q : Nat) (C : mm_ok g cc own ret nm nL fr lo mc ms) {r : Option Nat} {i : Int32} {v : Int32} (hf : mm_tZ M r i v = some M1) (d : decode cc pc = .ok (.bastore, 1)) (hq : pc + 1 = q) (kk : mm_X g cells slots M1 q lv st) : mm_X g cells slots M pc lv (mm_i v :: mm_i i :: mm_r r :: st) := by
  subst hq
  obtain ⟨p, l, e, R, s, m, args, below, meth, c, G, cy, M0, nL2, Q⟩ := g
  obtain ⟨hx, hb, hml, hnl, hown, hts, hv, hlk, hr, hnm, hsz, hR⟩ := C
  cases r with
  | none => cases hf
  | some a =>
    unfold mm_tZ at hf
    simp only at hf
    cases hk : mm_k M a with
    | none => rw [hk] at hf; cases hf
    | some w =>
      rw [hk] at hf
      simp only at hf
      split at hf
      case isFalse => cases hf
      case isTrue hc =>
        have hvv := (Option.some.inj hf).symm
        subst hvv
        obtain ⟨kd, n⟩ := w
        obtain ⟨rfl, hin, hbit⟩ := hc
        intro H locs ls a1 a2 a3 a4 hl
        have hat := mm_h_at a1 hk (by simp)
        rw [mm_ce_z hk] at hat
        refine W.zast hx hb (hat 0 _ rfl) ((hv.1.2 2 _ rfl).1 n (fun j => .int (M.2.1 a j))) (fun z => by cases z) (by show ¬ (i < 0 ∨ (arrV _ _ _).slots.size ≤ _); rw [arrV_size]; exact hin) rfl rfl d fun H1 e1 e2 e3 => ?_
        have hce : mm_ce cy (mm_sI M a i.toNatClampNeg v) a = .inl (cy 14, n, .inl (fun j => if j = i.toNatClampNeg then v else M.2.1 a j)) := by
          rw [mm_ce_z (M := mm_sI M a i.toNatClampNeg v) hk]
          show Sum.inl (cy 14, n, Sum.inl (mm_u M.2.1 a i.toNatClampNeg v a)) = _
          rw [mm_u_at]
        have hne : ∀ b, b ≠ a → mm_ce cy (mm_sI M a i.toNatClampNeg v) b = mm_ce cy M b := fun b hb => by
          refine mm_ce_ne rfl ?_ rfl ?_
          · exact mm_u_ne _ _ _ hb
          · rfl
        obtain ⟨b1, b2, b3, b4⟩ := mm_step_w (M1 := mm_sI M a i.toNatClampNeg v) (j := i.toNatClampNeg) a1 a2 a3 a4 hk (by simp) rfl rfl rfl hne (by
          rw [hce]
          show H1[a]? = some (vp_cell _ _)
          have hnv : narrow .boolean (Value.int v) = .int v := by rcases hbit with z | z <;> (rw [z]; decide)
          rw [hnv] at e1
          rw [e1, vp_cell_i, vp_cell_i, arrV_store]
          congr 2
          funext z
          by_cases hz : z = i.toNatClampNeg
          · subst hz
            simp [updV]
          · simp [updV, hz]) e2 e3
        exact kk H1 _ ls b1 b2 b3 b4 hl
theorem xr_astL (q : Nat) (C : mm_ok g cc own ret nm nL fr lo mc ms) {r : Option Nat} {i : Int32} {v : Int64} (hf : mm_tL M r i v = some M1) (d : decode cc pc = .ok (.lastore, 1)) (hq : pc + 1 = q) (kk : mm_X g cells slots M1 q lv st) : mm_X g cells slots M pc lv (mm_j v :: mm_i i :: mm_r r :: st) := by
  subst hq
  obtain ⟨p, l, e, R, s, m, args, below, meth, c, G, cy, M0, nL2, Q⟩ := g
  obtain ⟨hx, hb, hml, hnl, hown, hts, hv, hlk, hr, hnm, hsz, hR⟩ := C
  cases r with
  | none => cases hf
  | some a =>
    unfold mm_tL at hf
    simp only at hf
    cases hk : mm_k M a with
    | none => rw [hk] at hf; cases hf
    | some w =>
      rw [hk] at hf
      simp only at hf
      split at hf
      case isFalse => cases hf
      case isTrue hc =>
        have hvv := (Option.some.inj hf).symm
        subst hvv
        obtain ⟨kd, n⟩ := w
        obtain ⟨rfl, hin⟩ := hc
        intro H locs ls a1 a2 a3 a4 hl
        have hat := mm_h_at a1 hk (by simp)
        rw [mm_ce_l hk] at hat
        refine W.last hx hb (hat 0 _ rfl) ((hv.1.2 1 _ rfl).1 n (fun j => .long (M.2.2.2.1 a j))) (fun z => by cases z) (by show ¬ (i < 0 ∨ (arrV _ _ _).slots.size ≤ _); rw [arrV_size]; exact hin) rfl rfl d fun H1 e1 e2 e3 => ?_
        have hce : mm_ce cy (mm_sL M a i.toNatClampNeg v) a = .inl (cy 13, n, .inr <| .inl (fun j => if j = i.toNatClampNeg then v else M.2.2.2.1 a j)) := by
          rw [mm_ce_l (M := mm_sL M a i.toNatClampNeg v) hk]
          show Sum.inl (cy 13, n, Sum.inr <| Sum.inl (mm_u M.2.2.2.1 a i.toNatClampNeg v a)) = _
          rw [mm_u_at]
        have hne : ∀ b, b ≠ a → mm_ce cy (mm_sL M a i.toNatClampNeg v) b = mm_ce cy M b := fun b hb => by
          refine mm_ce_ne rfl ?_ rfl ?_
          · rfl
          · exact mm_u_ne _ _ _ hb
        obtain ⟨b1, b2, b3, b4⟩ := mm_step_w (M1 := mm_sL M a i.toNatClampNeg v) (j := i.toNatClampNeg) a1 a2 a3 a4 hk (by simp) rfl rfl rfl hne (by
          rw [hce]
          show H1[a]? = some (vp_cell _ _)
          skip
          skip
          rw [e1, vp_cell_l, vp_cell_l, arrV_store]
          congr 2
          funext z
          by_cases hz : z = i.toNatClampNeg
          · subst hz
            simp [updV]
          · simp [updV, hz]) e2 e3
        exact kk H1 _ ls b1 b2 b3 b4 hl
theorem mm_wq {G : va_G} {cy : Nat → ClassId} {a k n i : Nat} {v : Option Nat} {H1 : Heap} (hk : mm_k M a = some (k, n)) (hkd : 15 ≤ k) (e1 : H1[a]? = some ((vp_cell (cy k) (n, .inr (.inr (.inr (.inr (M.2.2.1 a)))))).setSlot i (va_rf v))) : va_at G vwCl (a, mm_ce cy (mm_sR M a i v) a) H1 := by
  rw [mm_ce_q (M := mm_sR M a i v) hk hkd]
  show H1[a]? = some (vp_cell (cy k) (n, .inr (.inr (.inr (.inr (mm_u M.2.2.1 a i v a))))))
  rw [mm_u_at, e1, vp_cell_q, vp_cell_q, arrV_store]
  congr 2
  funext z
  by_cases hz : z = i
  · subst hz
    simp [updV]
  · simp [updV, hz]
theorem mm_neR {cy : Nat → ClassId} {a i : Nat} {v : Option Nat} : ∀ b, b ≠ a → mm_ce cy (mm_sR M a i v) b = mm_ce cy M b := fun b hb => mm_ce_ne rfl rfl (mm_u_ne _ _ _ hb) rfl
theorem mm_tyk {cy : Nat → ClassId} {k : Nat} (h : k = 15 ∨ k = 16 ∨ k = 17) : ∃ C, (mm_tys cy)[k - 12]? = some (cy k, .object C) ∧ ((k = 15 ∧ C = "LessonCards$Learner") ∨ (k = 16 ∧ C = "LessonCards$Memory") ∨ (k = 17 ∧ C = "java/lang/Object")) := by
  rcases h with rfl | rfl | rfl
  · exact ⟨_, rfl, Or.inl ⟨rfl, rfl⟩⟩
  · exact ⟨_, rfl, Or.inr (Or.inl ⟨rfl, rfl⟩)⟩
  · exact ⟨_, rfl, Or.inr (Or.inr ⟨rfl, rfl⟩)⟩
/-- an object of an own class may stand where an Object may -/
theorem mm_castO : ∀ ci, ci < 12 → ∀ q, vwCl[ci]? = some q → Cond.castable q.1 "java/lang/Object" ∈ mm_nt := by
  intro ci hci q hq
  have hall : ∀ ci, ci < 12 → (vwCl[ci]?.map (fun q => (lw_tbl.contains (Cond.castable q.1 "java/lang/Object")))) = some true := by decide +kernel
  have h := hall ci hci
  rw [hq] at h
  exact List.mem_filter.mpr ⟨by simpa using h, rfl⟩
theorem xr_astR (q : Nat) (C : mm_ok g cc own ret nm nL fr lo mc ms) {r : Option Nat} {i : Int32} {v : Option Nat} (kd : Nat) (hkd : 15 ≤ kd ∧ kd ≤ 17) (hf : mm_tR M r kd i v = some M1) (d : decode cc pc = .ok (.aastore, 1)) (hq : pc + 1 = q) (kk : mm_X g cells slots M1 q lv st) : mm_X g cells slots M pc lv (mm_r v :: mm_i i :: mm_r r :: st) := by
  subst hq
  obtain ⟨p, l, e, R, s, m, args, below, meth, c, G, cy, M0, nL2, Q⟩ := g
  obtain ⟨hx, hb, hml, hnl, hown, hts, hv, hlk, hr, hnm, hsz, hR⟩ := C
  cases r with
  | none => cases hf
  | some a =>
    unfold mm_tR at hf
    simp only at hf
    cases hk : mm_k M a with
    | none => rw [hk] at hf; cases hf
    | some w =>
      rw [hk] at hf
      simp only at hf
      obtain ⟨k2, n⟩ := w
      cases v with
      | none =>
        simp only at hf
        split at hf
        case isFalse => cases hf
        case isTrue hc =>
          have hvv := (Option.some.inj hf).symm
          subst hvv
          obtain ⟨rfl, hin⟩ := hc
          obtain ⟨C, ht, -⟩ := mm_tyk (cy := cy) (k := k2) (by omega)
          intro H locs ls a1 a2 a3 a4 hl
          have hat := mm_h_at a1 hk (by omega)
          rw [mm_ce_q hk hkd.1] at hat
          refine va_WaastN (C := C) hx hb (hat 0 _ rfl) ((hv.1.2 _ _ ht).1 n (fun j => va_rf (M.2.2.1 a j))) (fun h => by cases h) (by show ¬ (i < 0 ∨ (arrV _ _ _).slots.size ≤ _); rw [arrV_size]; exact hin) rfl rfl d fun H1 e1 e2 e3 => ?_
          obtain ⟨b1, b2, b3, b4⟩ := mm_step_w (M1 := mm_sR M a i.toNatClampNeg none) (j := i.toNatClampNeg) a1 a2 a3 a4 hk (by omega) rfl rfl rfl mm_neR (mm_wq hk hkd.1 e1) e2 e3
          exact kk H1 _ ls b1 b2 b3 b4 hl
      | some b =>
        simp only at hf
        cases hkb : mm_k M b with
        | none => rw [hkb] at hf; cases hf
        | some w2 =>
          rw [hkb] at hf
          simp only at hf
          split at hf
          case isFalse => cases hf
          case isTrue hc =>
            have hvv := (Option.some.inj hf).symm
            subst hvv
            obtain ⟨k3, n3⟩ := w2
            obtain ⟨⟨rfl, hin⟩, hk3, hmay⟩ := hc
            simp only at hk3 hmay hin hkd
            obtain ⟨C, ht, hC⟩ := mm_tyk (cy := cy) (k := k2) (by omega)
            intro H locs ls a1 a2 a3 a4 hl
            have hat := mm_h_at a1 hk (by omega)
            rw [mm_ce_q hk hkd.1] at hat
            have hatb := mm_h_at a1 hkb (by omega) 0 _ rfl
            rw [mm_ce_obj hkb hk3] at hatb
            obtain ⟨rr, hr1, cellV, g1, g2, g3, -⟩ := hatb
            have hcls := (hv.1.1 k3 rr hr1).2
            obtain ⟨kA, comp, k1, k2', k3', -⟩ := (hv.1.2 _ _ ht).2
            obtain ⟨kE, hkE, -⟩ := Vm.findClass_spec k3'
            obtain ⟨kC, hkC, -⟩ := hcls.2
            have hasg : s.vm.assignable (G.1 k3) comp = true := by
              have hz := mm_castO k3 hk3 rr hr1
              rcases hC with ⟨h15, hC⟩ | ⟨h16, hC⟩ | ⟨h17, hC⟩
              · have h7 : k3 = 7 := by omega
                subst h7
                cases hr1
                subst hC
                have := Option.some.inj (hcls.1.symm.trans k3')
                rw [← this]
                exact va_assign hcls
              · have h9 : k3 = 9 := by omega
                subst h9
                cases hr1
                subst hC
                have := Option.some.inj (hcls.1.symm.trans k3')
                rw [← this]
                exact va_assign hcls
              · subst hC
                obtain ⟨c0, t1, f1, f2, f3⟩ := Cond.castable_spec (va_Nw.use (A := args) rfl (hv.2.1 _ hz))
                cases hcls.1.symm.trans f1
                cases k3'.symm.trans f2
                exact f3
            refine W.aast hx hb (hat 0 _ rfl) (fun q h => by cases h) (fun h => by cases h) k1 k2' rfl hkE ⟨fun z => hin (Or.inl z), by show _ < (arrV _ _ _).slots.size; rw [arrV_size]; exact Nat.not_le.mp fun z => hin (Or.inr z)⟩ g1 (fun q h => by rw [g3] at h; cases h) (by rw [g2]; exact hkC) (by rw [g2]; exact hasg) rfl rfl d fun H1 e1 e2 e3 => ?_
            obtain ⟨b1, b2, b3, b4⟩ := mm_step_w (M1 := mm_sR M a i.toNatClampNeg (some b)) (j := i.toNatClampNeg) a1 a2 a3 a4 hk (by omega) rfl rfl rfl mm_neR (mm_wq (v := some b) hk hkd.1 e1) e2 e3
            exact kk H1 _ ls b1 b2 b3 b4 hl
end
end
section
section
variable {g : mm_c} {cc : ByteArray} {own nm : String} {ret : Option FieldType} {nL fr lo mc ms cells slots : Nat} {M M1 : mm_M} {pc : Nat} {lv : List (Nat × mm_V)} {st : List mm_V}
theorem mm_s_p {A : Nat → Prop} {M : mm_M} {s : State} {H : Heap} (h : mm_s A M s H) : mm_p M := ⟨h.1, h.2.1⟩
-- arraylength
theorem xr_alen (q : Nat) (C : mm_ok g cc own ret nm nL fr lo mc ms) {r : Option Nat} {v : Int32} (hf : mm_ln M r = some v) (d : decode cc pc = .ok (.arraylength, 1)) (hq : pc + 1 = q) (kk : mm_X g cells slots M q lv (mm_i v :: st)) : mm_X g cells slots M pc lv (mm_r r :: st) := by
  subst hq
  obtain ⟨p, l, e, R, s, m, args, below, meth, c, G, cy, M0, nL2, Q⟩ := g
  obtain ⟨hx, hb, hml, hnl, hown, hts, hv, hlk, hr, hnm, hsz, hR⟩ := C
  cases r with
  | none => cases hf
  | some a =>
    unfold mm_ln at hf
    simp only at hf
    cases hk : mm_k M a with
    | none => rw [hk] at hf; cases hf
    | some w =>
      rw [hk] at hf
      simp only at hf
      split at hf
      case isFalse => cases hf
      case isTrue hc =>
        have hvv := (Option.some.inj hf).symm
        subst hvv
        obtain ⟨kd, n⟩ := w
        simp only at hc
        intro H locs ls a1 a2 a3 a4 hl
        by_cases h18 : kd = 18
        · subst h18
          obtain ⟨e1, e2⟩ := a3.2.1 a n hk
          subst e1; subst e2
          obtain ⟨cell, h1, h2, h3, h4, h5, h6, h7⟩ := a3.2.2.1
          exact W.alen (n := Int32.ofNat 0) hx hb h1 h2 h5 rfl rfl d (kk H locs ls a1 a2 a3 a4 hl)
        · have hat := mm_h_at a1 hk (by omega)
          rcases (show kd = 12 ∨ kd = 13 ∨ kd = 14 ∨ (kd = 15 ∨ kd = 16 ∨ kd = 17) by omega) with rfl | rfl | rfl | h3
          · rw [mm_ce_i hk] at hat
            exact va_alen hx hb hv.1 hat 0 0 rfl rfl rfl d (kk H locs ls a1 a2 a3 a4 hl)
          · rw [mm_ce_l hk] at hat
            exact va_alen hx hb hv.1 hat 0 1 rfl rfl rfl d (kk H locs ls a1 a2 a3 a4 hl)
          · rw [mm_ce_z hk] at hat
            exact va_alen hx hb hv.1 hat 0 2 rfl rfl rfl d (kk H locs ls a1 a2 a3 a4 hl)
          · rw [mm_ce_q hk (by omega)] at hat
            obtain ⟨C, ht, -⟩ := mm_tyk (cy := cy) h3
            exact va_alen hx hb hv.1 hat 0 _ rfl ht rfl d (kk H locs ls a1 a2 a3 a4 hl)
-- new objects
theorem xr_new (q : Nat) (C : mm_ok g cc own ret nm nL fr lo mc ms) {idx ci N : Nat} {Cn : String} {T : u_T} {ty : Nat → FieldType} (hc : vwCl[ci]? = some (Cn, T, N)) (hci : ci < 12) (hin : ∀ w ∈ u_ws Cn T N, w ∈ mm_gt) (hty : ∀ k, k < N → parseFieldDescriptor (T k).2.2.1 = some (ty k)) (hfs : ∀ j, j < N → defaultValue (ty j) = vp_V (mm_fl (mm_ft ci) 0 (fun _ => 0) (fun _ => none)) j)
    (w1 : Cond.classLink own idx Cn ∈ mm_gt) (w2 : Cond.instantiable Cn N ∈ mm_gt) (w3 : Cond.initialized Cn ∈ mm_gt) (d : decode cc pc = .ok (.new idx, 3)) (hcs : cells + 1 ≤ mc ∧ slots + N ≤ ms) (hq : pc + 3 = q) (hM1 : M1 = mm_nw M (ci, 0))
    (kk : mm_X g (cells + 1) (slots + N) M1 q lv (mm_r (some (mm_n M)) :: st)) : mm_X g cells slots M pc lv st := by
  subst hq
  subst hM1
  obtain ⟨p, l, e, R, s, m, args, below, meth, c, G, cy, M0, nL2, Q⟩ := g
  obtain ⟨hx, hb, hml, hnl, hown, hts, hv, hlk, hr, hnm, hsz, hR⟩ := C
  subst hR
  intro H locs ls a1 a2 a3 a4 hl
  have hKn := hv.1.1 ci _ hc
  refine W.newcK hx hb hown (hts _ w1) (hts _ w2) (hts _ w3) rfl d hcs.1 hcs.2 hKn.2.1 (h := mm_n M) a1.1 fun H1 kC hkC e1 z1 o1 => ?_
  obtain ⟨b1, b2, b3, b4⟩ := mm_step_n (kd := (ci, 0)) (H1 := H1) a1 a2 a3 a4 (by simp only; omega) (by
    rw [mm_ce_obj (M := mm_nw M (ci, 0)) (a := mm_n M) (k := ci) (n := 0) (if_pos rfl) hci]
    refine ⟨_, hc, (u_born ty hts hin hKn hkC e1 hty).to fun j hj => ?_⟩
    rw [hfs j hj]
    congr 2
    · funext z; exact (if_pos rfl).symm
    · funext z; exact (if_pos rfl).symm) (by rw [z1, a1.1]) (by rw [a1.1]; exact o1)
  exact kk H1 locs ls b1 b2 b3 b4 hl
theorem xr_newa (q : Nat) (C : mm_ok g cc own ret nm nL fr lo mc ms) {at_ : ArrayType} {kd lim : Nat} {i : Int32} (hkd : (kd = 12 ∧ at_ = .int) ∨ (kd = 13 ∧ at_ = .long) ∨ (kd = 14 ∧ at_ = .boolean)) (hlim : lim ≤ 60000000) (w1 : Cond.arrayClass (newarray.typeOf at_) ∈ mm_gt) (hf : mm_na M kd i lim = some M1) (d : decode cc pc = .ok (.newarray at_, 2)) (hcs : cells + 1 ≤ mc ∧ slots + lim ≤ ms) (hq : pc + 2 = q)
    (kk : mm_X g (cells + 1) (slots + lim) M1 q lv (mm_r (some (mm_n M)) :: st)) : mm_X g cells slots M pc lv (mm_i i :: st) := by
  subst hq
  obtain ⟨p, l, e, R, s, m, args, below, meth, c, G, cy, M0, nL2, Q⟩ := g
  obtain ⟨hx, hb, hml, hnl, hown, hts, hv, hlk, hr, hnm, hsz, hR⟩ := C
  subst hR
  unfold mm_na at hf
  split at hf
  case isFalse => cases hf
  case isTrue hc =>
    have hvv := (Option.some.inj hf).symm
    subst hvv
    intro H locs ls a1 a2 a3 a4 hl
    have hh := a1.1
    have hcl : ∀ (cA : ClassId), s.vm.findClass ("[" ++ (newarray.typeOf at_).toString) = some cA → cA = cy kd := by
      intro cA hcA
      rcases hkd with ⟨rfl, rfl⟩ | ⟨rfl, rfl⟩ | ⟨rfl, rfl⟩
      · exact Option.some.inj (hcA.symm.trans (hv.1.2 0 _ rfl).2)
      · exact Option.some.inj (hcA.symm.trans (hv.1.2 1 _ rfl).2)
      · exact Option.some.inj (hcA.symm.trans (hv.1.2 2 _ rfl).2)
    refine va_newaK hx hb (hts _ w1) rfl d rfl hc.1 rfl ?_ hcs.1 (Nat.le_trans (Nat.add_le_add_left hc.2 _) hcs.2) (h := mm_n M) hh fun H1 cA e1 z1 o1 hAr hNm => ?_
    · have : componentBytes (newarray.typeOf at_) ≤ 8 := by rcases hkd with ⟨-, rfl⟩ | ⟨-, rfl⟩ | ⟨-, rfl⟩ <;> decide
      exact Nat.le_trans (Nat.mul_le_mul (Nat.le_trans hc.2 hlim) this) (by decide)
    · have := hcl cA hNm
      subst this
      obtain ⟨b1, b2, b3, b4⟩ := mm_step_n (kd := (kd, i.toNatClampNeg)) (H1 := H1) a1 a2 a3 a4 (by simp only; omega) (by
        rcases hkd with ⟨rfl, rfl⟩ | ⟨rfl, rfl⟩ | ⟨rfl, rfl⟩
        · rw [mm_ce_i (M := mm_nw M (12, i.toNatClampNeg)) (a := mm_n M) (n := i.toNatClampNeg) (if_pos rfl)]
          show H1[mm_n M]? = some (vp_cell _ _)
          rw [e1, vp_cell_i]
          congr 2
          funext z
          exact congrArg Value.int (if_pos rfl).symm
        · rw [mm_ce_l (M := mm_nw M (13, i.toNatClampNeg)) (a := mm_n M) (n := i.toNatClampNeg) (if_pos rfl)]
          show H1[mm_n M]? = some (vp_cell _ _)
          rw [e1, vp_cell_l]
          congr 2
          funext z
          exact congrArg Value.long (if_pos rfl).symm
        · rw [mm_ce_z (M := mm_nw M (14, i.toNatClampNeg)) (a := mm_n M) (n := i.toNatClampNeg) (if_pos rfl)]
          show H1[mm_n M]? = some (vp_cell _ _)
          rw [e1, vp_cell_i]
          congr 2
          funext z
          exact congrArg Value.int (if_pos rfl).symm) (by rw [z1, hh]) (by rw [hh]; exact o1)
      exact W.widen (Nat.le_refl _) (Nat.add_le_add_left hc.2 _) (kk H1 locs ls b1 b2 b3 b4 hl)
theorem xr_newq (q : Nat) (C : mm_ok g cc own ret nm nL fr lo mc ms) {kd lim idx : Nat} {Cn : String} {i : Int32} (hkd : (kd = 15 ∧ Cn = "LessonCards$Learner") ∨ (kd = 16 ∧ Cn = "LessonCards$Memory") ∨ (kd = 17 ∧ Cn = "java/lang/Object")) (hlim : lim ≤ 60000000) (w1 : Cond.classLink own idx Cn ∈ mm_gt) (hf : mm_na M kd i lim = some M1) (d : decode cc pc = .ok (.anewarray idx, 3)) (hcs : cells + 1 ≤ mc ∧ slots + lim ≤ ms) (hq : pc + 3 = q)
    (kk : mm_X g (cells + 1) (slots + lim) M1 q lv (mm_r (some (mm_n M)) :: st)) : mm_X g cells slots M pc lv (mm_i i :: st) := by
  subst hq
  obtain ⟨p, l, e, R, s, m, args, below, meth, c, G, cy, M0, nL2, Q⟩ := g
  obtain ⟨hx, hb, hml, hnl, hown, hts, hv, hlk, hr, hnm, hsz, hR⟩ := C
  subst hR
  unfold mm_na at hf
  split at hf
  case isFalse => cases hf
  case isTrue hc =>
    have hvv := (Option.some.inj hf).symm
    subst hvv
    intro H locs ls a1 a2 a3 a4 hl
    have hh := a1.1
    have hAO : va_AO Cn s := by
      rcases hkd with ⟨-, rfl⟩ | ⟨-, rfl⟩ | ⟨-, rfl⟩
      · exact hv.2.2.1
      · exact hv.2.2.2.1
      · exact hv.2.2.2.2
    obtain ⟨C, ht, hC⟩ := mm_tyk (cy := cy) (k := kd) (by omega)
    have hCC : C = Cn := by
      rcases hkd with ⟨h, rfl⟩ | ⟨h, rfl⟩ | ⟨h, rfl⟩ <;> rcases hC with ⟨h2, h3⟩ | ⟨h2, h3⟩ | ⟨h2, h3⟩ <;> first | exact h3 | omega
    subst hCC
    have hcl : ∀ (cA : ClassId), s.vm.findClass ("[" ++ (FieldType.object C).toString) = some cA → cA = cy kd := by
      intro cA hcA
      obtain ⟨kA, comp, k1, k2, k3, k4⟩ := (hv.1.2 _ _ ht).2
      exact Option.some.inj (hcA.symm.trans k4)
    refine W.anew hx hb hown (hts _ w1) (va_AO.use hAO) rfl d rfl hc.1 (Nat.le_trans (Nat.mul_le_mul_right 4 (Nat.le_trans hc.2 hlim)) (by decide)) hcs.1 (Nat.le_trans (Nat.add_le_add_left hc.2 _) hcs.2) fun cA kA comp f1 f2 f3 f4 => ?_
    have := hcl cA f1
    subst this
    generalize hH1 : H.push ({ cls := cy kd, slots := Array.replicate i.toNatClampNeg .null, vm := .none } : Cell) = H1
    have z1 : H1.size = H.size + 1 := by rw [← hH1, Array.size_push]
    have e1 : H1[H.size]? = some (arrV (cy kd) i.toNatClampNeg (fun _ => .null)) := by rw [← hH1, Array.getElem?_push_size, ← arrV_new]
    have o1 : ∀ q : Nat, q < H.size → H1[q]? = H[q]? := fun q hq => by rw [← hH1, Array.getElem?_push, if_neg (Nat.ne_of_lt hq)]
    obtain ⟨b1, b2, b3, b4⟩ := mm_step_n (kd := (kd, i.toNatClampNeg)) (H1 := H1) a1 a2 a3 a4 (by simp only; omega) (by
      rw [mm_ce_q (M := mm_nw M (kd, i.toNatClampNeg)) (a := mm_n M) (k := kd) (n := i.toNatClampNeg) (if_pos rfl) (by omega)]
      show H1[mm_n M]? = some (vp_cell _ _)
      rw [← hh, e1, vp_cell_q]
      congr 2
      funext z
      have hz : (mm_nw M (kd, i.toNatClampNeg)).2.2.1 (mm_n M) z = none := if_pos rfl
      rw [hh, hz]
      rfl) z1 o1
    have k2 := kk H1 locs ls b1 b2 b3 b4 hl
    refine W.widen (Nat.le_refl _) (Nat.add_le_add_left hc.2 _) ?_
    rw [hh]
    exact k2
-- casts
theorem xr_cast (q : Nat) (C : mm_ok g cc own ret nm nL fr lo mc ms) {idx ci : Nat} {x : vw_C} {r : Option Nat} (hc : vwCl[ci]? = some x) (hci : ci < 12) (w1 : Cond.classLink own idx x.1 ∈ mm_gt) {u : Unit} (hf : mm_cc M r ci = some u) (d : decode cc pc = .ok (.checkcast idx, 3)) (hq : pc + 3 = q) (kk : mm_X g cells slots M q lv (mm_r r :: st)) : mm_X g cells slots M pc lv (mm_r r :: st) := by
  subst hq
  obtain ⟨p, l, e, R, s, m, args, below, meth, c, G, cy, M0, nL2, Q⟩ := g
  obtain ⟨hx, hb, hml, hnl, hown, hts, hv, hlk, hr, hnm, hsz, hR⟩ := C
  intro H locs ls a1 a2 a3 a4 hl
  have k2 := kk H locs ls a1 a2 a3 a4 hl
  cases r with
  | none => exact lv_castN hx hb d k2
  | some a =>
    unfold mm_cc at hf
    simp only at hf
    split at hf
    case isFalse => cases hf
    case isTrue hk =>
      have hat := mm_h_at a1 hk (by omega)
      rw [mm_ce_obj hk hci] at hat
      exact va_castS hx hb hown (hts _ w1) (hv.1.1 ci _ hc).2 (va_recv hv.1 hat hc (q0 := 0) rfl) d k2
-- the static
theorem xr_gets (q : Nat) (C : mm_ok g cc own ret nm nL fr lo mc ms) {idx : Nat} (w1 : Cond.fieldLink own idx "java/util/ArrayList" "DEFAULTCAPACITY_EMPTY_ELEMENTDATA" "[Ljava/lang/Object;" ∈ mm_gt) (d : decode cc pc = .ok (.getstatic idx, 3)) (hq : pc + 3 = q) (kk : mm_X g cells slots M q lv (mm_r (some (mm_z M)) :: st)) : mm_X g cells slots M pc lv st := by
  subst hq
  obtain ⟨p, l, e, R, s, m, args, below, meth, c, G, cy, M0, nL2, Q⟩ := g
  obtain ⟨hx, hb, hml, hnl, hown, hts, hv, hlk, hr, hnm, hsz, hR⟩ := C
  intro H locs ls a1 a2 a3 a4 hl
  obtain ⟨cf, kf, fi, f, a, cell, h1, h2, h3, h4, h5, h6, h7, h8⟩ := a3.2.2.2
  exact W.gets hx hb hown (hts _ w1) h1 h2 h3 h4 h5 (fun e => by rw [e] at h6; cases h6) h7 rfl d (kk H locs ls a1 a2 a3 a4 hl)
-- ends
theorem mm_end {v : Option mm_V} {p : Program} {l : Launch} {e : Env} {R : Room} {s : State} {m : MethodId} {args : Array Value} {below : List Frame} {meth : Method} {c : Code} {G : va_G} {cy : Nat → ClassId} {M0 : mm_M} {H : Heap} {locs : List Loc} (a1 : mm_h G cy M H) (a2 : mm_x M0 M) (a3 : mm_s (mm_D M0) M s H) (a4 : va_S (mm_D M0) s.heap H locs) :
    ∀ t : State, t.heap = H → s.WarmedH t.vm → mm_Q G cy M0 v M args s (.returned (v.map mm_val)) t := fun t ht _ => ⟨⟨rfl, a2, by rw [ht]; exact a1, mm_s_p a3⟩, a4.F ht⟩
theorem xr_iret (C : mm_ok g cc own (some .int) nm nL fr lo mc ms) {x : Int32} (hq : mm_q g mc ms (some (mm_i x)) M) (hcs : cells ≤ mc ∧ slots ≤ ms) (d : decode cc pc = .ok (.ireturn, 1)) : mm_X g cells slots M pc lv [mm_i x] := by
  obtain ⟨p, l, e, R, s, m, args, below, meth, c, G, cy, M0, nL2, Q⟩ := g
  obtain ⟨hx, hb, hml, hnl, hown, hts, hv, hlk, hr, hnm, hsz, hR⟩ := C
  intro H locs ls a1 a2 a3 a4 hl
  have hq' : Q = _ := hq
  subst hq'
  exact W.widen hcs.1 hcs.2 (W.iret hx hb hr (mm_end (v := some (mm_i x)) (p := p) (l := l) (e := e) (R := R) (m := m) (below := below) (meth := meth) (c := c) a1 a2 a3 a4) a4.2.2 d hlk)
theorem xr_zret (C : mm_ok g cc own (some .boolean) nm nL fr lo mc ms) {x : Int32} (hx01 : x = 0 ∨ x = 1) (hq : mm_q g mc ms (some (mm_i x)) M) (hcs : cells ≤ mc ∧ slots ≤ ms) (d : decode cc pc = .ok (.ireturn, 1)) : mm_X g cells slots M pc lv [mm_i x] := by
  obtain ⟨p, l, e, R, s, m, args, below, meth, c, G, cy, M0, nL2, Q⟩ := g
  obtain ⟨hx, hb, hml, hnl, hown, hts, hv, hlk, hr, hnm, hsz, hR⟩ := C
  intro H locs ls a1 a2 a3 a4 hl
  have hq' : Q = _ := hq
  subst hq'
  exact W.widen hcs.1 hcs.2 (W.zret hx hb hr (by rcases hx01 with z | z <;> (rw [z]; decide)) (mm_end (v := some (mm_i x)) (p := p) (l := l) (e := e) (R := R) (m := m) (below := below) (meth := meth) (c := c) a1 a2 a3 a4) a4.2.2 d hlk)
theorem xr_lret (C : mm_ok g cc own (some .long) nm nL fr lo mc ms) {x : Int64} (hq : mm_q g mc ms (some (mm_j x)) M) (hcs : cells ≤ mc ∧ slots ≤ ms) (d : decode cc pc = .ok (.lreturn, 1)) : mm_X g cells slots M pc lv [mm_j x] := by
  obtain ⟨p, l, e, R, s, m, args, below, meth, c, G, cy, M0, nL2, Q⟩ := g
  obtain ⟨hx, hb, hml, hnl, hown, hts, hv, hlk, hr, hnm, hsz, hR⟩ := C
  intro H locs ls a1 a2 a3 a4 hl
  have hq' : Q = _ := hq
  subst hq'
  exact W.widen hcs.1 hcs.2 (W.lret hx hb hr (mm_end (v := some (mm_j x)) (p := p) (l := l) (e := e) (R := R) (m := m) (below := below) (meth := meth) (c := c) a1 a2 a3 a4) a4.2.2 d hlk)
theorem xr_vret (C : mm_ok g cc own none nm nL fr lo mc ms) (hq : mm_q g mc ms none M) (hcs : cells ≤ mc ∧ slots ≤ ms) (d : decode cc pc = .ok (.return_, 1)) : mm_X g cells slots M pc lv [] := by
  obtain ⟨p, l, e, R, s, m, args, below, meth, c, G, cy, M0, nL2, Q⟩ := g
  obtain ⟨hx, hb, hml, hnl, hown, hts, hv, hlk, hr, hnm, hsz, hR⟩ := C
  intro H locs ls a1 a2 a3 a4 hl
  have hq' : Q = _ := hq
  subst hq'
  exact W.widen hcs.1 hcs.2 (W.vret hx hb hr (mm_end (v := none) (p := p) (l := l) (e := e) (R := R) (m := m) (below := below) (meth := meth) (c := c) a1 a2 a3 a4) a4.2.2 d hlk)
theorem xr_aret {rt : FieldType} (hrt : (∃ n, rt = .object n) ∨ ∃ t, rt = .array t) (C : mm_ok g cc own (some rt) nm nL fr lo mc ms) {x : Option Nat} (hq : mm_q g mc ms (some (mm_r x)) M) (hcs : cells ≤ mc ∧ slots ≤ ms) (d : decode cc pc = .ok (.areturn, 1)) : mm_X g cells slots M pc lv [mm_r x] := by
  obtain ⟨p, l, e, R, s, m, args, below, meth, c, G, cy, M0, nL2, Q⟩ := g
  obtain ⟨hx, hb, hml, hnl, hown, hts, hv, hlk, hr, hnm, hsz, hR⟩ := C
  intro H locs ls a1 a2 a3 a4 hl
  have hq' : Q = _ := hq
  subst hq'
  exact W.widen hcs.1 hcs.2 (W.aret hx hb hr hrt (by cases x with | none => exact Or.inl rfl | some a => exact Or.inr ⟨a, rfl⟩) (mm_end (v := some (mm_r x)) (p := p) (l := l) (e := e) (R := R) (m := m) (below := below) (meth := meth) (c := c) a1 a2 a3 a4) a4.2.2 d hlk)
end
end
section
-- what the tables say of a call
def mm_cd (y : MethodName) (b : ByteArray) (maxL : Nat) (ret : Option FieldType) (n : Nat) : Prop := Cond.code y b maxL ret ∈ mm_gt ∧ Cond.initialized y.cls ∈ mm_gt ∧ (y.cls ≠ "java/lang/invoke/MethodHandle" ∧ y.cls ≠ "java/lang/invoke/VarHandle") ∧ (parseMethodDescriptor y.desc).map (fun d => d.parameters.length) = some n
def mm_lk (own : String) (idx : Nat) (y : MethodName) : Prop := Cond.methodLink own idx y ∈ mm_gt ∨ ∃ host, Cond.methodLinkNest own idx y host ∈ mm_nt
def mm_cV (own : String) (idx ci : Nat) (y : MethodName) (b : ByteArray) (maxL : Nat) (ret : Option FieldType) (n : Nat) : Prop := mm_cd y b maxL ret n ∧ ci < 12 ∧ vwCl[ci]?.map Prod.fst = some y.cls ∧ mm_lk own idx y ∧ Cond.instanceMethod y ∈ mm_gt ∧ Cond.selects y.cls y y ∈ mm_gt
def mm_cS (own : String) (idx : Nat) (y : MethodName) (b : ByteArray) (maxL : Nat) (ret : Option FieldType) (n : Nat) : Prop := mm_cd y b maxL ret n ∧ mm_lk own idx y ∧ Cond.static y ∈ mm_gt
def mm_cI (own : String) (idx : Nat) (y : MethodName) (b : ByteArray) (maxL : Nat) (n : Nat) : Prop := mm_cd y b maxL none n ∧ mm_lk own idx y ∧ Cond.instanceMethod y ∈ mm_gt ∧ y.name = "<init>"
theorem mm_gi2 {w : Cond} (hw : w ∈ mm_gt) : GoodIn mm_gt (w :: mm_gt) := by
  intro v hv
  rcases List.mem_cons.mp hv with rfl | hv
  · exact ⟨hw, good_of_word (List.mem_filter.mp hw).2⟩
  · exact ⟨hv, good_of_word (List.mem_filter.mp hv).2⟩
section
variable {p : Program} {l : Launch} {e : Env} {R : Room} {s : State} {m : MethodId} {args : Array Value} {below : List Frame} {meth : Method} {c : Code} {H : Heap} {locs : List Loc} {cells slots : Nat} {Q : State → Prop} {G : va_G} {cy : Nat → ClassId} {M0 M M1 : mm_M} {pc : Nat} {ls : Array Slot} {st0 rest : List Value} {v : Option mm_V} {mc2 ms2 : Nat} {av : Array Value}
theorem mm_back (hr : va_Run p l e R s m args below meth c H locs cells slots mc2 ms2 (F0 m pc ls st0) rest (mm_Q G cy M v M1 av) (mm_D M)) (a1 : mm_h G cy M H) (a2 : mm_x M0 M) (a3 : mm_s (mm_D M0) M s H) (a4 : va_S (mm_D M0) s.heap H locs)
    (kk : ∀ (H1 : Heap) (locs1 : List Loc), mm_h G cy M1 H1 → mm_x M0 M1 → mm_s (mm_D M0) M1 s H1 → va_S (mm_D M0) s.heap H1 locs1 → W p l e R s m args below meth c H1 locs1 (cells + mc2) (slots + ms2) Q (F0 m (pc + 3) ls ((v.map mm_val).toList ++ rest))) : W p l e R s m args below meth c H locs cells slots Q (F0 m pc ls st0) := by
  intro T hT X
  obtain ⟨vv, st₀, t, T', L, h0, X', hL, e1, e2, ⟨⟨hv, hx1, hh1, hp1⟩, hz, hkp⟩, st⟩ := hr T hT X
  have hvv : vv = v.map mm_val := by injection hv
  subst hvv
  rw [h0] at hz hkp
  have hk2 : ∀ q : Nat, q < H.size → ¬ mm_D M0 q → T'.heap[q]? = H[q]? := fun q q1 q2 => by rw [e1]; exact hkp q q1 (fun z => q2 (a2.2.2 q z))
  have h5 := mm_s_kept a3 (H1 := T'.heap) hk2
  obtain ⟨t2, b1, b2⟩ := kk T'.heap (locs ++ L) (by rw [e1]; exact hh1) (mm_x_tr a2 hx1) ⟨hp1.1, hp1.2, by rw [hx1.2.1]; exact h5.2.2.1, by rw [hx1.2.1]; exact h5.2.2.2⟩
    ⟨Nat.le_trans a4.1 (by rw [e1]; exact hz), fun q q1 q2 => (hk2 q (Nat.lt_of_lt_of_le q1 a4.1) q2).trans (a4.2.1 q q1 q2), fun q hq => by
      rcases List.mem_append.mp hq with h | h
      · exact a4.2.2 q h
      · exact a2.2.2 _ (hL q h)⟩ T' rfl X'
  exact ⟨t2, st t2 b1, b2⟩
theorem mm_preU (hv : mm_v G cy s) (a1 : mm_h G cy M H) (a2 : mm_x M0 M) (a3 : mm_s (mm_D M0) M s H) {av : List Value} : ∀ U : State, U.heap = H → s.WarmedH U.vm → va_Pc av (mm_pre G cy M) av.toArray U := by
  intro U hU hW
  refine ⟨rfl, by rw [hU]; exact a1, mm_v_moved hW hv, ?_⟩
  rw [hU]
  exact mm_s_moved hW.alike (mm_s_narrow a3 a2.2.2)
end
section
variable {g : mm_c} {cc : ByteArray} {own nm : String} {ret : Option FieldType} {nL fr lo mc ms cells slots : Nat} {M M1 : mm_M} {pc : Nat} {lv : List (Nat × mm_V)} {st st0 : List mm_V}
variable {y : MethodName} {b : ByteArray} {maxL fr2 lo2 mc2 ms2 idx ci n : Nat} {ret2 : Option FieldType} {v : Option mm_V} {r : Option Nat} {a : Nat}
theorem mm_cat_sum (vs : List mm_V) : ((mm_st vs).map fun v => v.category).sum = (vs.map mm_cat).sum := mm_st_cat vs

theorem xr_callV (q : Nat) (C : mm_ok g cc own ret nm nL fr lo mc ms) (As : List mm_V) (cw : mm_cV own idx ci y b maxL ret2 n) (hM : ∀ (l : Launch) (G : va_G) (cy : Nat → ClassId), mm_Met l y b maxL ret2 fr2 lo2 mc2 ms2 G cy (mm_r r :: As) M v M1) (hrc : mm_rc M r ci = some ()) (hn : As.length = n) (hst : st0 = As.reverse ++ mm_r r :: st) (hroom : (fr2 + 1 ≤ fr ∧ 8 + (maxL + 11) + lo2 ≤ lo) ∧ cells + mc2 ≤ mc ∧ slots + ms2 ≤ ms) (hcat : (st.map mm_cat).sum ≤ 8) (d : decode cc pc = .ok (.invokevirtual idx, 3)) (hq : pc + 3 = q)
    (kk : mm_X g (cells + mc2) (slots + ms2) M1 q lv (v.toList ++ st)) : mm_X g cells slots M pc lv st0 := by
  subst hq
  subst hst
  obtain ⟨p, l, e, R, s, m, args, below, meth, c, G, cy, M0, nL2, Q⟩ := g
  obtain ⟨hx, hb, hml, hnl, hown, hts, hv, hlk, hr, hnm, hsz, hR⟩ := C
  subst hR
  subst hnl
  have hM2 := hM l G cy
  intro H locs ls a1 a2 a3 a4 hl
  obtain ⟨⟨w1, w2, w3, w4⟩, hci, hcl, hlink, w5, w6⟩ := cw
  cases r with
  | none => cases hrc
  | some rb =>
  unfold mm_rc at hrc
  simp only at hrc
  split at hrc
  case isFalse => cases hrc
  case isTrue hk0 =>
  have hS : CallFix p m c cc nL2 s args mm_gt own := ⟨hx, hb, hml, hown, hts⟩
  have hW : 2 * (F0 m pc ls (mm_st (As.reverse ++ mm_r (some rb) :: st))).monitorRoom + ((mm_st st).map fun v => v.category).sum ≤ 8 := by
    rw [mm_st_cat]
    exact Nat.le_trans (by simp [JFrame.monitorRoom]) hcat
  have hst : mm_st (As.reverse ++ mm_r (some rb) :: st) = (mm_st As).reverse ++ Value.ref rb :: mm_st st := by simp [mm_st, mm_val, va_rf]
  have hk := kk
  have hfin : ∀ (H1 : Heap) (locs1 : List Loc), mm_h G cy M1 H1 → mm_x M0 M1 → mm_s (mm_D M0) M1 s H1 → va_S (mm_D M0) s.heap H1 locs1 → W p l e _ s m args below meth c H1 locs1 (cells + mc2) (slots + ms2) Q (F0 m (pc + 3) ls ((v.map mm_val).toList ++ mm_st st)) := fun H1 locs1 c1 c2 c3 c4 => by
    have h9 := kk H1 locs1 ls c1 c2 c3 c4 hl
    have e9 : mm_st (v.toList ++ st) = (v.map mm_val).toList ++ mm_st st := by cases v <;> simp [mm_st]
    rw [e9] at h9
    exact h9
  have hat := mm_h_at a1 hk0 (by omega)
  rw [mm_ce_obj hk0 hci] at hat
  obtain ⟨x, hx1, hx2⟩ := Option.map_eq_some_iff.mp hcl
  have hrecv := va_recv hv.1 hat hx1 (q0 := 0) rfl
  rw [hx2] at hrecv
  have hp : PreV s H y.cls rb (va_Pc (mm_st (mm_r (some rb) :: As)) (mm_pre G cy M)) (mm_st As) := ⟨mm_pre_blind G cy M _, hrecv, mm_preU hv a1 a2 a3 (av := mm_st (mm_r (some rb) :: As))⟩
  rcases hlink with hlink | ⟨host, hlink⟩
  · exact mm_back (va_runV hS hM2 ⟨callB_of n hts (mm_gi2 w1) rfl rfl rfl (hts _ w2) (hts _ hlink) ⟨w3.1, w3.2, w4⟩ hroom.1, hts _ w5, hts _ w6⟩ hp rfl (by rw [List.length_map]; exact hn) hl.1 hst hW d hroom.2) a1 a2 a3 a4 hfin
  · exact mm_back (va_runVN hS hM2 ⟨va_cnB n hts (mm_gi2 w1) rfl rfl rfl (hv.2.1 _ hlink) (hts _ w2) ⟨w3.1, w3.2, w4⟩ hroom.1, hts _ w5, hts _ w6⟩ hp rfl (by rw [List.length_map]; exact hn) hl.1 hst hW d hroom.2) a1 a2 a3 a4 hfin
theorem xr_callS (q : Nat) (C : mm_ok g cc own ret nm nL fr lo mc ms) (As : List mm_V) (cw : mm_cS own idx y b maxL ret2 n) (hM : ∀ (l : Launch) (G : va_G) (cy : Nat → ClassId), mm_Met l y b maxL ret2 fr2 lo2 mc2 ms2 G cy As M v M1) (hn : As.length = n) (hst : st0 = As.reverse ++ st) (hroom : (fr2 + 1 ≤ fr ∧ 8 + (maxL + 11) + lo2 ≤ lo) ∧ cells + mc2 ≤ mc ∧ slots + ms2 ≤ ms) (hcat : (st.map mm_cat).sum ≤ 8) (d : decode cc pc = .ok (.invokestatic idx, 3)) (hq : pc + 3 = q)
    (kk : mm_X g (cells + mc2) (slots + ms2) M1 q lv (v.toList ++ st)) : mm_X g cells slots M pc lv st0 := by
  subst hq
  subst hst
  obtain ⟨p, l, e, R, s, m, args, below, meth, c, G, cy, M0, nL2, Q⟩ := g
  obtain ⟨hx, hb, hml, hnl, hown, hts, hv, hlk, hr, hnm, hsz, hR⟩ := C
  subst hR
  subst hnl
  have hM2 := hM l G cy
  intro H locs ls a1 a2 a3 a4 hl
  obtain ⟨⟨w1, w2, w3, w4⟩, hlink, w5⟩ := cw
  have hS : CallFix p m c cc nL2 s args mm_gt own := ⟨hx, hb, hml, hown, hts⟩
  have hW : 2 * (F0 m pc ls (mm_st (As.reverse ++ st))).monitorRoom + ((mm_st st).map fun v => v.category).sum ≤ 8 := by
    rw [mm_st_cat]
    exact Nat.le_trans (by simp [JFrame.monitorRoom]) hcat
  have hst : mm_st (As.reverse ++ st) = (mm_st As).reverse ++ mm_st st := by simp [mm_st, mm_val, va_rf]
  have hk := kk
  have hfin : ∀ (H1 : Heap) (locs1 : List Loc), mm_h G cy M1 H1 → mm_x M0 M1 → mm_s (mm_D M0) M1 s H1 → va_S (mm_D M0) s.heap H1 locs1 → W p l e _ s m args below meth c H1 locs1 (cells + mc2) (slots + ms2) Q (F0 m (pc + 3) ls ((v.map mm_val).toList ++ mm_st st)) := fun H1 locs1 c1 c2 c3 c4 => by
    have h9 := kk H1 locs1 ls c1 c2 c3 c4 hl
    have e9 : mm_st (v.toList ++ st) = (v.map mm_val).toList ++ mm_st st := by cases v <;> simp [mm_st]
    rw [e9] at h9
    exact h9
  have hp : PreS s H (va_Pc (mm_st As) (mm_pre G cy M)) (mm_st As) := ⟨mm_pre_blind G cy M _, mm_preU hv a1 a2 a3⟩
  rcases hlink with hlink | ⟨host, hlink⟩
  · exact mm_back (va_runS hS hM2 ⟨callB_of n hts (mm_gi2 w1) rfl rfl rfl (hts _ w2) (hts _ hlink) ⟨w3.1, w3.2, w4⟩ hroom.1, hts _ w5⟩ hp rfl (by rw [List.length_map]; exact hn) hl.1 hst hW d hroom.2) a1 a2 a3 a4 hfin
  · exact mm_back (va_runSN hS hM2 ⟨va_cnB n hts (mm_gi2 w1) rfl rfl rfl (hv.2.1 _ hlink) (hts _ w2) ⟨w3.1, w3.2, w4⟩ hroom.1, hts _ w5, trivial⟩ hp rfl (by rw [List.length_map]; exact hn) hl.1 hst hW d hroom.2) a1 a2 a3 a4 hfin
theorem xr_callI (q : Nat) (C : mm_ok g cc own ret nm nL fr lo mc ms) (As : List mm_V) (cw : mm_cI own idx y b maxL n) (hM : ∀ (l : Launch) (G : va_G) (cy : Nat → ClassId), mm_Met l y b maxL none fr2 lo2 mc2 ms2 G cy (mm_r (some a) :: As) M v M1) (hn : As.length = n) (hst : st0 = As.reverse ++ mm_r (some a) :: st) (hroom : (fr2 + 1 ≤ fr ∧ 8 + (maxL + 11) + lo2 ≤ lo) ∧ cells + mc2 ≤ mc ∧ slots + ms2 ≤ ms) (hcat : (st.map mm_cat).sum ≤ 8) (d : decode cc pc = .ok (.invokespecial idx, 3)) (hq : pc + 3 = q)
    (kk : mm_X g (cells + mc2) (slots + ms2) M1 q lv (v.toList ++ st)) : mm_X g cells slots M pc lv st0 := by
  subst hq
  subst hst
  obtain ⟨p, l, e, R, s, m, args, below, meth, c, G, cy, M0, nL2, Q⟩ := g
  obtain ⟨hx, hb, hml, hnl, hown, hts, hv, hlk, hr, hnm, hsz, hR⟩ := C
  subst hR
  subst hnl
  have hM2 := hM l G cy
  intro H locs ls a1 a2 a3 a4 hl
  obtain ⟨⟨w1, w2, w3, w4⟩, hlink, w5, w6⟩ := cw
  have hS : CallFix p m c cc nL2 s args mm_gt own := ⟨hx, hb, hml, hown, hts⟩
  have hW : 2 * (F0 m pc ls (mm_st (As.reverse ++ mm_r (some a) :: st))).monitorRoom + ((mm_st st).map fun v => v.category).sum ≤ 8 := by
    rw [mm_st_cat]
    exact Nat.le_trans (by simp [JFrame.monitorRoom]) hcat
  have hst : mm_st (As.reverse ++ mm_r (some a) :: st) = (mm_st As).reverse ++ Value.ref a :: mm_st st := by simp [mm_st, mm_val, va_rf]
  have hk := kk
  have hfin : ∀ (H1 : Heap) (locs1 : List Loc), mm_h G cy M1 H1 → mm_x M0 M1 → mm_s (mm_D M0) M1 s H1 → va_S (mm_D M0) s.heap H1 locs1 → W p l e _ s m args below meth c H1 locs1 (cells + mc2) (slots + ms2) Q (F0 m (pc + 3) ls ((v.map mm_val).toList ++ mm_st st)) := fun H1 locs1 c1 c2 c3 c4 => by
    have h9 := kk H1 locs1 ls c1 c2 c3 c4 hl
    have e9 : mm_st (v.toList ++ st) = (v.map mm_val).toList ++ mm_st st := by cases v <;> simp [mm_st]
    rw [e9] at h9
    exact h9
  have hp : PreS s H (va_Pc (mm_st (mm_r (some a) :: As)) (mm_pre G cy M)) (.ref a :: mm_st As) := ⟨mm_pre_blind G cy M _, mm_preU hv a1 a2 a3 (av := mm_st (mm_r (some a) :: As))⟩
  rcases hlink with hlink | ⟨host, hlink⟩
  · exact mm_back (va_runI hS hM2 ⟨callB_of n hts (mm_gi2 w1) rfl rfl rfl (hts _ w2) (hts _ hlink) ⟨w3.1, w3.2, w4⟩ hroom.1, w6, hts _ w5⟩ hp rfl (by rw [List.length_map]; exact hn) hl.1 hst hW d hroom.2) a1 a2 a3 a4 hfin
  · exact mm_back (va_runIN hS hM2 ⟨va_cnB n hts (mm_gi2 w1) rfl rfl rfl (hv.2.1 _ hlink) (hts _ w2) ⟨w3.1, w3.2, w4⟩ hroom.1, w6, hts _ w5⟩ hp rfl (by rw [List.length_map]; exact hn) hl.1 hst hW d hroom.2) a1 a2 a3 a4 hfin
theorem xr_oinit (q : Nat) (C : mm_ok g cc own ret nm nL fr lo mc ms) (w1 : Cond.methodLink own idx Lib.objectInit ∈ mm_gt) (w2 : Cond.instanceMethod Lib.objectInit ∈ mm_gt) (w3 : Cond.code Lib.objectInit ⟨#[0xb1]⟩ 1 none ∈ mm_gt) (hroom : 1 ≤ fr ∧ 20 ≤ lo) (hcat : (st.map mm_cat).sum ≤ 8) (d : decode cc pc = .ok (.invokespecial idx, 3)) (hq : pc + 3 = q)
    (kk : mm_X g cells slots M q lv st) : mm_X g cells slots M pc lv (mm_r (some a) :: st) := by
  subst hq
  obtain ⟨p, l, e, R, s, m, args, below, meth, c, G, cy, M0, nL2, Q⟩ := g
  obtain ⟨hx, hb, hml, hnl, hown, hts, hv, hlk, hr, hnm, hsz, hR⟩ := C
  subst hR
  subst hnl
  intro H locs ls a1 a2 a3 a4 hl
  refine W.objInit (rest := mm_st st) hx hb hown (hts _ w1) (hts _ w2) (hts _ w3) rfl (by rw [hml]; exact hl.1) rfl d hroom.1 ?_ (kk H locs ls a1 a2 a3 a4 hl)
  rw [mm_st_cat]
  exact Nat.le_trans (Nat.add_le_add_right (Nat.add_le_add (Nat.le_of_eq (show 2 * (F0 m pc ls (mm_st (mm_r (some a) :: st))).monitorRoom = 0 by simp [JFrame.monitorRoom])) hcat) 12) (Nat.le_trans (by decide) hroom.2)
-- Math

theorem xr_mmax (q : Nat) (C : mm_ok g cc own ret nm nL fr lo mc ms) (w1 : Cond.methodLink own idx Lib.Math.max.name ∈ mm_gt) (w2 : Cond.static Lib.Math.max.name ∈ mm_gt) (w3 : Cond.initialized "java/lang/Math" ∈ mm_gt) (w4 : Cond.code Lib.Math.max.name Lib.Math.max.code 2 (some .int) ∈ mm_gt) {x y : Int32} (hroom : 1 ≤ fr ∧ 21 ≤ lo ∧ cells ≤ mc ∧ slots ≤ ms) (hcat : (st.map mm_cat).sum ≤ 8) (d : decode cc pc = .ok (.invokestatic idx, 3)) (hq : pc + 3 = q)
    (kk : mm_X g cells slots M q lv (mm_i (if x < y then y else x) :: st)) : mm_X g cells slots M pc lv (mm_i y :: mm_i x :: st) := by
  subst hq
  obtain ⟨p, l, e, R, s, m, args, below, meth, c, G, cy, M0, nL2, Q⟩ := g
  obtain ⟨hx, hb, hml, hnl, hown, hts, hv, hlk, hr, hnm, hsz, hR⟩ := C
  subst hR
  subst hnl
  intro H locs ls a1 a2 a3 a4 hl
  exact va_mmax (rest := mm_st st) hx hb (by rw [hml]; exact hl.1.symm) hown (hts _ w1) (hts _ w2) (hts _ w3) (hts _ w4) hroom.1 (by rw [mm_st_cat]; exact Nat.le_trans (Nat.add_le_add_right hcat 13) hroom.2.1) hroom.2.2.1 hroom.2.2.2 d (kk H locs ls a1 a2 a3 a4 hl)
theorem xr_mmin (q : Nat) (C : mm_ok g cc own ret nm nL fr lo mc ms) (w1 : Cond.methodLink own idx Lib.Math.min.name ∈ mm_gt) (w2 : Cond.static Lib.Math.min.name ∈ mm_gt) (w3 : Cond.initialized "java/lang/Math" ∈ mm_gt) (w4 : Cond.code Lib.Math.min.name Lib.Math.min.code 2 (some .int) ∈ mm_gt) {x y : Int32} (hroom : 1 ≤ fr ∧ 21 ≤ lo ∧ cells ≤ mc ∧ slots ≤ ms) (hcat : (st.map mm_cat).sum ≤ 8) (d : decode cc pc = .ok (.invokestatic idx, 3)) (hq : pc + 3 = q)
    (kk : mm_X g cells slots M q lv (mm_i (if y < x then y else x) :: st)) : mm_X g cells slots M pc lv (mm_i y :: mm_i x :: st) := by
  subst hq
  obtain ⟨p, l, e, R, s, m, args, below, meth, c, G, cy, M0, nL2, Q⟩ := g
  obtain ⟨hx, hb, hml, hnl, hown, hts, hv, hlk, hr, hnm, hsz, hR⟩ := C
  subst hR
  subst hnl
  intro H locs ls a1 a2 a3 a4 hl
  exact va_mmin (rest := mm_st st) hx hb (by rw [hml]; exact hl.1.symm) hown (hts _ w1) (hts _ w2) (hts _ w3) (hts _ w4) hroom.1 (by rw [mm_st_cat]; exact Nat.le_trans (Nat.add_le_add_right hcat 13) hroom.2.1) hroom.2.2.1 hroom.2.2.2 d (kk H locs ls a1 a2 a3 a4 hl)
theorem xr_mmaxL (q : Nat) (C : mm_ok g cc own ret nm nL fr lo mc ms) (w1 : Cond.methodLink own idx Lib.MathLoose.max_long.x ∈ mm_gt) (w2 : Cond.static Lib.MathLoose.max_long.x ∈ mm_gt) (w3 : Cond.initialized "java/lang/Math" ∈ mm_gt) (w4 : Cond.code Lib.MathLoose.max_long.x Lib.MathLoose.max_long.code 4 (some .long) ∈ mm_gt) {x y : Int64} (hroom : 1 ≤ fr ∧ 25 ≤ lo ∧ cells ≤ mc ∧ slots ≤ ms) (hcat : (st.map mm_cat).sum ≤ 8) (d : decode cc pc = .ok (.invokestatic idx, 3)) (hq : pc + 3 = q)
    (kk : mm_X g cells slots M q lv (mm_j (if y < x then x else y) :: st)) : mm_X g cells slots M pc lv (mm_j y :: mm_j x :: st) := by
  subst hq
  obtain ⟨p, l, e, R, s, m, args, below, meth, c, G, cy, M0, nL2, Q⟩ := g
  obtain ⟨hx, hb, hml, hnl, hown, hts, hv, hlk, hr, hnm, hsz, hR⟩ := C
  subst hR
  subst hnl
  intro H locs ls a1 a2 a3 a4 hl
  exact va_mmax_long (rest := mm_st st) hx hb (by rw [hml]; exact hl.1.symm) hown (hts _ w1) (hts _ w2) (hts _ w3) (hts _ w4) hroom.1 (by rw [mm_st_cat]; exact Nat.le_trans (Nat.add_le_add_right hcat 15) (Nat.le_trans (by decide) hroom.2.1)) hroom.2.2.1 hroom.2.2.2 d (kk H locs ls a1 a2 a3 a4 hl)
theorem xr_mminL (q : Nat) (C : mm_ok g cc own ret nm nL fr lo mc ms) (w1 : Cond.methodLink own idx Lib.MathLoose.min_long.x ∈ mm_gt) (w2 : Cond.static Lib.MathLoose.min_long.x ∈ mm_gt) (w3 : Cond.initialized "java/lang/Math" ∈ mm_gt) (w4 : Cond.code Lib.MathLoose.min_long.x Lib.MathLoose.min_long.code 4 (some .long) ∈ mm_gt) {x y : Int64} (hroom : 1 ≤ fr ∧ 25 ≤ lo ∧ cells ≤ mc ∧ slots ≤ ms) (hcat : (st.map mm_cat).sum ≤ 8) (d : decode cc pc = .ok (.invokestatic idx, 3)) (hq : pc + 3 = q)
    (kk : mm_X g cells slots M q lv (mm_j (if y < x then y else x) :: st)) : mm_X g cells slots M pc lv (mm_j y :: mm_j x :: st) := by
  subst hq
  obtain ⟨p, l, e, R, s, m, args, below, meth, c, G, cy, M0, nL2, Q⟩ := g
  obtain ⟨hx, hb, hml, hnl, hown, hts, hv, hlk, hr, hnm, hsz, hR⟩ := C
  subst hR
  subst hnl
  intro H locs ls a1 a2 a3 a4 hl
  exact va_mmin_long (rest := mm_st st) hx hb (by rw [hml]; exact hl.1.symm) hown (hts _ w1) (hts _ w2) (hts _ w3) (hts _ w4) hroom.1 (by rw [mm_st_cat]; exact Nat.le_trans (Nat.add_le_add_right hcat 15) (Nat.le_trans (by decide) hroom.2.1)) hroom.2.2.1 hroom.2.2.2 d (kk H locs ls a1 a2 a3 a4 hl)
end
end
