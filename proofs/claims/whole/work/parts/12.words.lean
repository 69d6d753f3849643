theorem in_Jx4a65c : ∀ w ∈ u_ws RJx4a65c TJx4a65c 3, w ∈ mm_gt := by
  intro w hw
  have h : (u_ws RJx4a65c TJx4a65c 3).all (fun w => decide (w ∈ lw_tbl) && goodWord w) = true := by decide +kernel
  have h2 := List.all_eq_true.mp h w hw
  simp only [Bool.and_eq_true, decide_eq_true_eq] at h2
  exact List.mem_filter.mpr h2
theorem in_X0 : ∀ w ∈ u_ws RX0 TX0 2, w ∈ mm_gt := by
  intro w hw
  have h : (u_ws RX0 TX0 2).all (fun w => decide (w ∈ lw_tbl) && goodWord w) = true := by decide +kernel
  have h2 := List.all_eq_true.mp h w hw
  simp only [Bool.and_eq_true, decide_eq_true_eq] at h2
  exact List.mem_filter.mpr h2
theorem in_X1 : ∀ w ∈ u_ws RX1 TX1 2, w ∈ mm_gt := by
  intro w hw
  have h : (u_ws RX1 TX1 2).all (fun w => decide (w ∈ lw_tbl) && goodWord w) = true := by decide +kernel
  have h2 := List.all_eq_true.mp h w hw
  simp only [Bool.and_eq_true, decide_eq_true_eq] at h2
  exact List.mem_filter.mpr h2
theorem in_X2 : ∀ w ∈ u_ws RX2 TX2 3, w ∈ mm_gt := by
  intro w hw
  have h : (u_ws RX2 TX2 3).all (fun w => decide (w ∈ lw_tbl) && goodWord w) = true := by decide +kernel
  have h2 := List.all_eq_true.mp h w hw
  simp only [Bool.and_eq_true, decide_eq_true_eq] at h2
  exact List.mem_filter.mpr h2
theorem in_X3 : ∀ w ∈ u_ws RX3 TX3 7, w ∈ mm_gt := by
  intro w hw
  have h : (u_ws RX3 TX3 7).all (fun w => decide (w ∈ lw_tbl) && goodWord w) = true := by decide +kernel
  have h2 := List.all_eq_true.mp h w hw
  simp only [Bool.and_eq_true, decide_eq_true_eq] at h2
  exact List.mem_filter.mpr h2
theorem in_X4 : ∀ w ∈ u_ws RX4 TX4 5, w ∈ mm_gt := by
  intro w hw
  have h : (u_ws RX4 TX4 5).all (fun w => decide (w ∈ lw_tbl) && goodWord w) = true := by decide +kernel
  have h2 := List.all_eq_true.mp h w hw
  simp only [Bool.and_eq_true, decide_eq_true_eq] at h2
  exact List.mem_filter.mpr h2
theorem in_X5 : ∀ w ∈ u_ws RX5 TX5 1, w ∈ mm_gt := by
  intro w hw
  have h : (u_ws RX5 TX5 1).all (fun w => decide (w ∈ lw_tbl) && goodWord w) = true := by decide +kernel
  have h2 := List.all_eq_true.mp h w hw
  simp only [Bool.and_eq_true, decide_eq_true_eq] at h2
  exact List.mem_filter.mpr h2
theorem in_X6 : ∀ w ∈ u_ws RX6 TX6 4, w ∈ mm_gt := by
  intro w hw
  have h : (u_ws RX6 TX6 4).all (fun w => decide (w ∈ lw_tbl) && goodWord w) = true := by decide +kernel
  have h2 := List.all_eq_true.mp h w hw
  simp only [Bool.and_eq_true, decide_eq_true_eq] at h2
  exact List.mem_filter.mpr h2
theorem in_X7 : ∀ w ∈ u_ws RX7 TX7 6, w ∈ mm_gt := by
  intro w hw
  have h : (u_ws RX7 TX7 6).all (fun w => decide (w ∈ lw_tbl) && goodWord w) = true := by decide +kernel
  have h2 := List.all_eq_true.mp h w hw
  simp only [Bool.and_eq_true, decide_eq_true_eq] at h2
  exact List.mem_filter.mpr h2
theorem in_X8 : ∀ w ∈ u_ws RX8 TX8 7, w ∈ mm_gt := by
  intro w hw
  have h : (u_ws RX8 TX8 7).all (fun w => decide (w ∈ lw_tbl) && goodWord w) = true := by decide +kernel
  have h2 := List.all_eq_true.mp h w hw
  simp only [Bool.and_eq_true, decide_eq_true_eq] at h2
  exact List.mem_filter.mpr h2
theorem in_X9 : ∀ w ∈ u_ws RX9 TX9 11, w ∈ mm_gt := by
  intro w hw
  have h : (u_ws RX9 TX9 11).all (fun w => decide (w ∈ lw_tbl) && goodWord w) = true := by decide +kernel
  have h2 := List.all_eq_true.mp h w hw
  simp only [Bool.and_eq_true, decide_eq_true_eq] at h2
  exact List.mem_filter.mpr h2
theorem in_X10 : ∀ w ∈ u_ws RX10 TX10 48, w ∈ mm_gt := by
  intro w hw
  have h : (u_ws RX10 TX10 48).all (fun w => decide (w ∈ lw_tbl) && goodWord w) = true := by decide +kernel
  have h2 := List.all_eq_true.mp h w hw
  simp only [Bool.and_eq_true, decide_eq_true_eq] at h2
  exact List.mem_filter.mpr h2
theorem nf_Jx4a65c : ∀ j, j < 3 → defaultValue (tyJx4a65c j) = vp_V (mm_fl (mm_ft 0) 0 (fun _ => 0) (fun _ => none)) j := by
  intro j hj
  have h : ∀ j, j < 3 → defaultValue (tyJx4a65c j) = vp_V (mm_fl (mm_ft 0) 0 (fun _ => 0) (fun _ => none)) j := by decide +kernel
  exact h j hj
theorem nf_X0 : ∀ j, j < 2 → defaultValue (tyX0 j) = vp_V (mm_fl (mm_ft 1) 0 (fun _ => 0) (fun _ => none)) j := by
  intro j hj
  have h : ∀ j, j < 2 → defaultValue (tyX0 j) = vp_V (mm_fl (mm_ft 1) 0 (fun _ => 0) (fun _ => none)) j := by decide +kernel
  exact h j hj
theorem nf_X1 : ∀ j, j < 2 → defaultValue (tyX1 j) = vp_V (mm_fl (mm_ft 2) 0 (fun _ => 0) (fun _ => none)) j := by
  intro j hj
  have h : ∀ j, j < 2 → defaultValue (tyX1 j) = vp_V (mm_fl (mm_ft 2) 0 (fun _ => 0) (fun _ => none)) j := by decide +kernel
  exact h j hj
theorem nf_X2 : ∀ j, j < 3 → defaultValue (tyX2 j) = vp_V (mm_fl (mm_ft 3) 0 (fun _ => 0) (fun _ => none)) j := by
  intro j hj
  have h : ∀ j, j < 3 → defaultValue (tyX2 j) = vp_V (mm_fl (mm_ft 3) 0 (fun _ => 0) (fun _ => none)) j := by decide +kernel
  exact h j hj
theorem nf_X3 : ∀ j, j < 7 → defaultValue (tyX3 j) = vp_V (mm_fl (mm_ft 4) 0 (fun _ => 0) (fun _ => none)) j := by
  intro j hj
  have h : ∀ j, j < 7 → defaultValue (tyX3 j) = vp_V (mm_fl (mm_ft 4) 0 (fun _ => 0) (fun _ => none)) j := by decide +kernel
  exact h j hj
theorem nf_X4 : ∀ j, j < 5 → defaultValue (tyX4 j) = vp_V (mm_fl (mm_ft 5) 0 (fun _ => 0) (fun _ => none)) j := by
  intro j hj
  have h : ∀ j, j < 5 → defaultValue (tyX4 j) = vp_V (mm_fl (mm_ft 5) 0 (fun _ => 0) (fun _ => none)) j := by decide +kernel
  exact h j hj
theorem nf_X5 : ∀ j, j < 1 → defaultValue (tyX5 j) = vp_V (mm_fl (mm_ft 6) 0 (fun _ => 0) (fun _ => none)) j := by
  intro j hj
  have h : ∀ j, j < 1 → defaultValue (tyX5 j) = vp_V (mm_fl (mm_ft 6) 0 (fun _ => 0) (fun _ => none)) j := by decide +kernel
  exact h j hj
theorem nf_X6 : ∀ j, j < 4 → defaultValue (tyX6 j) = vp_V (mm_fl (mm_ft 7) 0 (fun _ => 0) (fun _ => none)) j := by
  intro j hj
  have h : ∀ j, j < 4 → defaultValue (tyX6 j) = vp_V (mm_fl (mm_ft 7) 0 (fun _ => 0) (fun _ => none)) j := by decide +kernel
  exact h j hj
theorem nf_X7 : ∀ j, j < 6 → defaultValue (tyX7 j) = vp_V (mm_fl (mm_ft 8) 0 (fun _ => 0) (fun _ => none)) j := by
  intro j hj
  have h : ∀ j, j < 6 → defaultValue (tyX7 j) = vp_V (mm_fl (mm_ft 8) 0 (fun _ => 0) (fun _ => none)) j := by decide +kernel
  exact h j hj
theorem nf_X8 : ∀ j, j < 7 → defaultValue (tyX8 j) = vp_V (mm_fl (mm_ft 9) 0 (fun _ => 0) (fun _ => none)) j := by
  intro j hj
  have h : ∀ j, j < 7 → defaultValue (tyX8 j) = vp_V (mm_fl (mm_ft 9) 0 (fun _ => 0) (fun _ => none)) j := by decide +kernel
  exact h j hj
theorem nf_X9 : ∀ j, j < 11 → defaultValue (tyX9 j) = vp_V (mm_fl (mm_ft 10) 0 (fun _ => 0) (fun _ => none)) j := by
  intro j hj
  have h : ∀ j, j < 11 → defaultValue (tyX9 j) = vp_V (mm_fl (mm_ft 10) 0 (fun _ => 0) (fun _ => none)) j := by decide +kernel
  exact h j hj
theorem nf_X10 : ∀ j, j < 48 → defaultValue (tyX10 j) = vp_V (mm_fl (mm_ft 11) 0 (fun _ => 0) (fun _ => none)) j := by
  intro j hj
  have h : ∀ j, j < 48 → defaultValue (tyX10 j) = vp_V (mm_fl (mm_ft 11) 0 (fun _ => 0) (fun _ => none)) j := by decide +kernel
  exact h j hj
theorem wd_0 : Cond.selects "java/util/ArrayList" ⟨"java/util/ArrayList", "add", "(Ljava/lang/Object;[Ljava/lang/Object;I)V"⟩ ⟨"java/util/ArrayList", "add", "(Ljava/lang/Object;[Ljava/lang/Object;I)V"⟩ ∈ mm_gt := mm_in_gt 0 (by decide +kernel) rfl
theorem wd_1 : Cond.selects "java/util/ArrayList" ⟨"java/util/ArrayList", "grow", "()[Ljava/lang/Object;"⟩ ⟨"java/util/ArrayList", "grow", "()[Ljava/lang/Object;"⟩ ∈ mm_gt := mm_in_gt 1 (by decide +kernel) rfl
theorem wd_2 : Cond.selects "java/util/ArrayList" ⟨"java/util/ArrayList", "grow", "(I)[Ljava/lang/Object;"⟩ ⟨"java/util/ArrayList", "grow", "(I)[Ljava/lang/Object;"⟩ ∈ mm_gt := mm_in_gt 2 (by decide +kernel) rfl
theorem wd_3 : Cond.selects "LessonCards$Deck" ⟨"LessonCards$Deck", "reach", "(II)I"⟩ ⟨"LessonCards$Deck", "reach", "(II)I"⟩ ∈ mm_gt := mm_in_gt 3 (by decide +kernel) rfl
theorem wd_4 : Cond.selects "LessonCards" ⟨"LessonCards", "learnerAt", "(I)LLessonCards$Learner;"⟩ ⟨"LessonCards", "learnerAt", "(I)LLessonCards$Learner;"⟩ ∈ mm_gt := mm_in_gt 4 (by decide +kernel) rfl
theorem wd_5 : Cond.selects "LessonCards$Learner" ⟨"LessonCards$Learner", "sinkLast", "(LLessonCards$Curve;)V"⟩ ⟨"LessonCards$Learner", "sinkLast", "(LLessonCards$Curve;)V"⟩ ∈ mm_gt := mm_in_gt 5 (by decide +kernel) rfl
theorem wd_6 : Cond.selects "LessonCards$Learner" ⟨"LessonCards$Learner", "chanceAt", "(ILLessonCards$Curve;)I"⟩ ⟨"LessonCards$Learner", "chanceAt", "(ILLessonCards$Curve;)I"⟩ ∈ mm_gt := mm_in_gt 6 (by decide +kernel) rfl
theorem wd_7 : Cond.selects "LessonCards$Learner" ⟨"LessonCards$Learner", "hasCard", "(I)Z"⟩ ⟨"LessonCards$Learner", "hasCard", "(I)Z"⟩ ∈ mm_gt := mm_in_gt 7 (by decide +kernel) rfl
theorem wd_8 : Cond.selects "LessonCards$Learner" ⟨"LessonCards$Learner", "isReady", "(LLessonCards$Card;LLessonCards$Curve;)Z"⟩ ⟨"LessonCards$Learner", "isReady", "(LLessonCards$Card;LLessonCards$Curve;)Z"⟩ ∈ mm_gt := mm_in_gt 8 (by decide +kernel) rfl
theorem wd_9 : Cond.selects "LessonCards$Memory" ⟨"LessonCards$Memory", "moveByBoxes", "(I)V"⟩ ⟨"LessonCards$Memory", "moveByBoxes", "(I)V"⟩ ∈ mm_gt := mm_in_gt 9 (by decide +kernel) rfl
theorem wd_10 : Cond.selects "LessonCards$Memory" ⟨"LessonCards$Memory", "moveByStrengths", "(II)V"⟩ ⟨"LessonCards$Memory", "moveByStrengths", "(II)V"⟩ ∈ mm_gt := mm_in_gt 10 (by decide +kernel) rfl
theorem wd_11 : Cond.selects "LessonCards" ⟨"LessonCards", "memoryOf", "(III)LLessonCards$Memory;"⟩ ⟨"LessonCards", "memoryOf", "(III)LLessonCards$Memory;"⟩ ∈ mm_gt := mm_in_gt 11 (by decide +kernel) rfl
theorem wd_12 : Cond.selects "java/util/ArrayList" ⟨"java/util/ArrayList", "fastRemove", "([Ljava/lang/Object;I)V"⟩ ⟨"java/util/ArrayList", "fastRemove", "([Ljava/lang/Object;I)V"⟩ ∈ mm_gt := mm_in_gt 12 (by decide +kernel) rfl
theorem wd_13 : Cond.selects "LessonCards" ⟨"LessonCards", "isAskedOn", "(LLessonCards$Hand;II)Z"⟩ ⟨"LessonCards", "isAskedOn", "(LLessonCards$Hand;II)Z"⟩ ∈ mm_gt := mm_in_gt 13 (by decide +kernel) rfl
theorem wd_14 : Cond.selects "LessonCards$Evening" ⟨"LessonCards$Evening", "addSide", "(II)V"⟩ ⟨"LessonCards$Evening", "addSide", "(II)V"⟩ ∈ mm_gt := mm_in_gt 14 (by decide +kernel) rfl
theorem wd_15 : Cond.selects "LessonCards$Evening" ⟨"LessonCards$Evening", "fits", "(II)Z"⟩ ⟨"LessonCards$Evening", "fits", "(II)Z"⟩ ∈ mm_gt := mm_in_gt 15 (by decide +kernel) rfl
theorem wd_16 : Cond.selects "LessonCards$Evening" ⟨"LessonCards$Evening", "putOn", "(II)V"⟩ ⟨"LessonCards$Evening", "putOn", "(II)V"⟩ ∈ mm_gt := mm_in_gt 16 (by decide +kernel) rfl
theorem wd_17 : Cond.selects "LessonCards$LevelTest" ⟨"LessonCards$LevelTest", "greatestBehind", "(IZ)J"⟩ ⟨"LessonCards$LevelTest", "greatestBehind", "(IZ)J"⟩ ∈ mm_gt := mm_in_gt 17 (by decide +kernel) rfl
theorem wd_18 : Cond.selects "LessonCards$LevelTest" ⟨"LessonCards$LevelTest", "factorOf", "(IIZ)I"⟩ ⟨"LessonCards$LevelTest", "factorOf", "(IIZ)I"⟩ ∈ mm_gt := mm_in_gt 18 (by decide +kernel) rfl
theorem wd_19 : Cond.selects "LessonCards$LevelTest" ⟨"LessonCards$LevelTest", "isClear", "()Z"⟩ ⟨"LessonCards$LevelTest", "isClear", "()Z"⟩ ∈ mm_gt := mm_in_gt 19 (by decide +kernel) rfl
theorem wd_20 : Cond.selects "LessonCards" ⟨"LessonCards", "retell", "(II)J"⟩ ⟨"LessonCards", "retell", "(II)J"⟩ ∈ mm_gt := mm_in_gt 20 (by decide +kernel) rfl
theorem wd_21 : Cond.selects "LessonCards" ⟨"LessonCards", "retellOne", "(LLessonCards$Memory;LLessonCards$Entry;I)V"⟩ ⟨"LessonCards", "retellOne", "(LLessonCards$Memory;LLessonCards$Entry;I)V"⟩ ∈ mm_gt := mm_in_gt 21 (by decide +kernel) rfl
theorem wd_22 : Cond.selects "LessonCardsModel" ⟨"LessonCardsModel", "isCard", "(I)Z"⟩ ⟨"LessonCardsModel", "isCard", "(I)Z"⟩ ∈ mm_gt := mm_in_gt 22 (by decide +kernel) rfl
theorem wd_23 : Cond.selects "LessonCardsModel" ⟨"LessonCardsModel", "leads", "(II)Z"⟩ ⟨"LessonCardsModel", "leads", "(II)Z"⟩ ∈ mm_gt := mm_in_gt 23 (by decide +kernel) rfl
theorem wd_24 : Cond.selects "LessonCardsModel" ⟨"LessonCardsModel", "dueSide", "(IIIZ)I"⟩ ⟨"LessonCardsModel", "dueSide", "(IIIZ)I"⟩ ∈ mm_gt := mm_in_gt 24 (by decide +kernel) rfl
theorem wd_25 : Cond.selects "LessonCardsModel" ⟨"LessonCardsModel", "take", "(I)V"⟩ ⟨"LessonCardsModel", "take", "(I)V"⟩ ∈ mm_gt := mm_in_gt 25 (by decide +kernel) rfl
theorem wd_26 : Cond.selects "LessonCardsModel" ⟨"LessonCardsModel", "isDue", "(I)Z"⟩ ⟨"LessonCardsModel", "isDue", "(I)Z"⟩ ∈ mm_gt := mm_in_gt 26 (by decide +kernel) rfl
theorem wd_27 : Cond.selects "LessonCardsModel" ⟨"LessonCardsModel", "isLeech", "()Z"⟩ ⟨"LessonCardsModel", "isLeech", "()Z"⟩ ∈ mm_gt := mm_in_gt 27 (by decide +kernel) rfl
theorem wd_28 : Cond.selects "LessonCardsModel" ⟨"LessonCardsModel", "chance", "(I)I"⟩ ⟨"LessonCardsModel", "chance", "(I)I"⟩ ∈ mm_gt := mm_in_gt 28 (by decide +kernel) rfl
theorem wd_29 : Cond.selects "LessonCardsModel" ⟨"LessonCardsModel", "leanedOn", "(II)I"⟩ ⟨"LessonCardsModel", "leanedOn", "(II)I"⟩ ∈ mm_gt := mm_in_gt 29 (by decide +kernel) rfl
theorem wd_30 : Cond.selects "LessonCardsModel" ⟨"LessonCardsModel", "isKnown", "(II)Z"⟩ ⟨"LessonCardsModel", "isKnown", "(II)Z"⟩ ∈ mm_gt := mm_in_gt 30 (by decide +kernel) rfl
theorem wd_31 : Cond.selects "LessonCardsModel" ⟨"LessonCardsModel", "isKnownSide", "(III)Z"⟩ ⟨"LessonCardsModel", "isKnownSide", "(III)Z"⟩ ∈ mm_gt := mm_in_gt 31 (by decide +kernel) rfl
theorem wd_32 : Cond.selects "LessonCardsModel" ⟨"LessonCardsModel", "answerBy", "(IIII)V"⟩ ⟨"LessonCardsModel", "answerBy", "(IIII)V"⟩ ∈ mm_gt := mm_in_gt 32 (by decide +kernel) rfl
theorem wd_33 : Cond.selects "LessonCardsModel" ⟨"LessonCardsModel", "byStrengths", "(II)V"⟩ ⟨"LessonCardsModel", "byStrengths", "(II)V"⟩ ∈ mm_gt := mm_in_gt 33 (by decide +kernel) rfl
theorem wd_34 : Cond.selects "LessonCardsModel" ⟨"LessonCardsModel", "give", "(I)V"⟩ ⟨"LessonCardsModel", "give", "(I)V"⟩ ∈ mm_gt := mm_in_gt 34 (by decide +kernel) rfl
theorem wd_35 : Cond.selects "LessonCardsModel" ⟨"LessonCardsModel", "dropFirst", "(I)V"⟩ ⟨"LessonCardsModel", "dropFirst", "(I)V"⟩ ∈ mm_gt := mm_in_gt 35 (by decide +kernel) rfl
theorem wd_36 : Cond.selects "LessonCardsModel" ⟨"LessonCardsModel", "isSide", "(II)Z"⟩ ⟨"LessonCardsModel", "isSide", "(II)Z"⟩ ∈ mm_gt := mm_in_gt 36 (by decide +kernel) rfl
theorem wd_37 : Cond.selects "LessonCardsModel" ⟨"LessonCardsModel", "firstDue", "(II)I"⟩ ⟨"LessonCardsModel", "firstDue", "(II)I"⟩ ∈ mm_gt := mm_in_gt 37 (by decide +kernel) rfl
theorem wd_38 : Cond.selects "LessonCardsModel" ⟨"LessonCardsModel", "sidesThat", "(II)I"⟩ ⟨"LessonCardsModel", "sidesThat", "(II)I"⟩ ∈ mm_gt := mm_in_gt 38 (by decide +kernel) rfl
theorem wd_39 : Cond.selects "LessonCardsModel" ⟨"LessonCardsModel", "putAll", "(III)Z"⟩ ⟨"LessonCardsModel", "putAll", "(III)Z"⟩ ∈ mm_gt := mm_in_gt 39 (by decide +kernel) rfl
theorem wd_40 : Cond.selects "LessonCardsModel" ⟨"LessonCardsModel", "bestQuestion", "()I"⟩ ⟨"LessonCardsModel", "bestQuestion", "()I"⟩ ∈ mm_gt := mm_in_gt 40 (by decide +kernel) rfl
theorem wd_41 : Cond.selects "LessonCardsModel" ⟨"LessonCardsModel", "greatest", "(IZ)J"⟩ ⟨"LessonCardsModel", "greatest", "(IZ)J"⟩ ∈ mm_gt := mm_in_gt 41 (by decide +kernel) rfl
theorem wd_42 : Cond.selects "LessonCardsModel" ⟨"LessonCardsModel", "surpriseOf", "(II)J"⟩ ⟨"LessonCardsModel", "surpriseOf", "(II)J"⟩ ∈ mm_gt := mm_in_gt 42 (by decide +kernel) rfl
theorem wd_43 : Cond.selects "LessonCardsModel" ⟨"LessonCardsModel", "replay", "(II)J"⟩ ⟨"LessonCardsModel", "replay", "(II)J"⟩ ∈ mm_gt := mm_in_gt 43 (by decide +kernel) rfl
theorem wd_44 : Cond.selects "LessonCardsModel" ⟨"LessonCardsModel", "begin", "()V"⟩ ⟨"LessonCardsModel", "begin", "()V"⟩ ∈ mm_gt := mm_in_gt 44 (by decide +kernel) rfl
theorem wd_46 : (Jvm.Cond.initialized "LessonCards") ∈ mm_gt := mm_in_gt 46 (by decide +kernel) rfl
theorem wd_47 : (Jvm.Cond.initialized "LessonCards$Curve") ∈ mm_gt := mm_in_gt 47 (by decide +kernel) rfl
theorem wd_48 : (Jvm.Cond.initialized "LessonCards$Deck") ∈ mm_gt := mm_in_gt 48 (by decide +kernel) rfl
theorem wd_49 : (Jvm.Cond.initialized "java/util/AbstractCollection") ∈ mm_gt := mm_in_gt 49 (by decide +kernel) rfl
theorem wd_50 : (Jvm.Cond.initialized "java/util/AbstractList") ∈ mm_gt := mm_in_gt 50 (by decide +kernel) rfl
theorem wd_51 : (Jvm.Cond.initialized "java/util/ArrayList") ∈ mm_gt := mm_in_gt 51 (by decide +kernel) rfl
theorem wd_52 : (Jvm.Cond.initialized "LessonCards$Learner") ∈ mm_gt := mm_in_gt 52 (by decide +kernel) rfl
theorem wd_53 : (Jvm.Cond.initialized "LessonCards$Evening") ∈ mm_gt := mm_in_gt 53 (by decide +kernel) rfl
theorem wd_54 : (Jvm.Cond.initialized "LessonCards$LevelTest") ∈ mm_gt := mm_in_gt 54 (by decide +kernel) rfl
theorem wd_55 : (Jvm.Cond.initialized "LessonCardsModel") ∈ mm_gt := mm_in_gt 55 (by decide +kernel) rfl
theorem wd_56 : (Jvm.Cond.initialized "LessonCards$Hand") ∈ mm_gt := mm_in_gt 56 (by decide +kernel) rfl
theorem wd_57 : (Jvm.Cond.initialized "LessonCards$Memory") ∈ mm_gt := mm_in_gt 57 (by decide +kernel) rfl
theorem wd_58 : (Jvm.Cond.initialized "jdk/internal/util/ArraysSupport") ∈ mm_gt := mm_in_gt 58 (by decide +kernel) rfl
theorem wd_59 : (Jvm.Cond.initialized "java/lang/Math") ∈ mm_gt := mm_in_gt 59 (by decide +kernel) rfl
theorem wd_60 : (Jvm.Cond.initialized "java/util/Arrays") ∈ mm_gt := mm_in_gt 60 (by decide +kernel) rfl
theorem wd_61 : (Jvm.Cond.initialized "java/lang/System") ∈ mm_gt := mm_in_gt 61 (by decide +kernel) rfl
theorem wd_62 : (Jvm.Cond.initialized "LessonCards$Card") ∈ mm_gt := mm_in_gt 62 (by decide +kernel) rfl
theorem wd_63 : (Jvm.Cond.initialized "java/util/Objects") ∈ mm_gt := mm_in_gt 63 (by decide +kernel) rfl
theorem wd_64 : (Jvm.Cond.initialized "jdk/internal/util/Preconditions") ∈ mm_gt := mm_in_gt 64 (by decide +kernel) rfl
theorem wd_65 : (Jvm.Cond.initialized "LessonCards$Entry") ∈ mm_gt := mm_in_gt 65 (by decide +kernel) rfl
theorem wd_66 : (Jvm.Cond.classLink "LessonCardsLaw" (7 : Nat) "LessonCards") ∈ mm_gt := mm_in_gt 66 (by decide +kernel) rfl
theorem wd_67 : (Jvm.Cond.instantiable "LessonCards" (11 : Nat)) ∈ mm_gt := mm_in_gt 67 (by decide +kernel) rfl
theorem wd_68 : (Jvm.Cond.methodLink "LessonCardsLaw" (9 : Nat) ({ cls := "LessonCards", name := "<init>", desc := "()V" } : Jvm.MethodName)) ∈ mm_gt := mm_in_gt 68 (by decide +kernel) rfl
theorem wd_69 : (Jvm.Cond.instanceMethod ({ cls := "LessonCards", name := "<init>", desc := "()V" } : Jvm.MethodName)) ∈ mm_gt := mm_in_gt 69 (by decide +kernel) rfl
theorem wd_70 : (Jvm.Cond.code ({ cls := "LessonCards", name := "<init>", desc := "()V" } : Jvm.MethodName) prog_1_method_1_code (2 : Nat) (Option.none : Option Jvm.ClassFile.FieldType)) ∈ mm_gt := mm_in_gt 70 (by decide +kernel) rfl
theorem wd_71 : (Jvm.Cond.methodLink "LessonCards" (3 : Nat) ({ cls := "java/lang/Object", name := "<init>", desc := "()V" } : Jvm.MethodName)) ∈ mm_gt := mm_in_gt 71 (by decide +kernel) rfl
theorem wd_72 : (Jvm.Cond.instanceMethod ({ cls := "java/lang/Object", name := "<init>", desc := "()V" } : Jvm.MethodName)) ∈ mm_gt := mm_in_gt 72 (by decide +kernel) rfl
theorem wd_73 : (Jvm.Cond.code ({ cls := "java/lang/Object", name := "<init>", desc := "()V" } : Jvm.MethodName) object_method_1_code (1 : Nat) (Option.none : Option Jvm.ClassFile.FieldType)) ∈ mm_gt := mm_in_gt 73 (by decide +kernel) rfl
theorem wd_74 : (Jvm.Cond.classLink "LessonCards" (9 : Nat) "LessonCards$Curve") ∈ mm_gt := mm_in_gt 74 (by decide +kernel) rfl
theorem wd_75 : (Jvm.Cond.instantiable "LessonCards$Curve" (2 : Nat)) ∈ mm_gt := mm_in_gt 75 (by decide +kernel) rfl
theorem wd_76 : (Jvm.Cond.methodLink "LessonCards" (11 : Nat) ({ cls := "LessonCards$Curve", name := "<init>", desc := "()V" } : Jvm.MethodName)) ∈ mm_gt := mm_in_gt 76 (by decide +kernel) rfl
theorem wd_77 : (Jvm.Cond.instanceMethod ({ cls := "LessonCards$Curve", name := "<init>", desc := "()V" } : Jvm.MethodName)) ∈ mm_gt := mm_in_gt 77 (by decide +kernel) rfl
theorem wd_78 : (Jvm.Cond.code ({ cls := "LessonCards$Curve", name := "<init>", desc := "()V" } : Jvm.MethodName) prog_3_method_1_code (4 : Nat) (Option.none : Option Jvm.ClassFile.FieldType)) ∈ mm_gt := mm_in_gt 78 (by decide +kernel) rfl
theorem wd_79 : (Jvm.Cond.methodLink "LessonCards$Curve" (3 : Nat) ({ cls := "java/lang/Object", name := "<init>", desc := "()V" } : Jvm.MethodName)) ∈ mm_gt := mm_in_gt 79 (by decide +kernel) rfl
theorem wd_80 : (Jvm.Cond.fieldLink "LessonCards$Curve" (11 : Nat) "LessonCards$Curve" "chances" "[I") ∈ mm_gt := mm_in_gt 80 (by decide +kernel) rfl
theorem wd_81 : (Jvm.Cond.fieldLink "LessonCards$Curve" (15 : Nat) "LessonCards$Curve" "dueStep" "I") ∈ mm_gt := mm_in_gt 81 (by decide +kernel) rfl
theorem wn_82 : (Jvm.Cond.fieldLinkNest "LessonCards$Memory" (63 : Nat) "LessonCards$Curve" "dueStep" "I" "LessonCards") ∈ mm_nt := mm_in_nt 82 (by decide +kernel) rfl
theorem wd_88 : (Jvm.Cond.arrayClass Jvm.ClassFile.FieldType.int) ∈ mm_gt := mm_in_gt 88 (by decide +kernel) rfl
theorem wd_89 : (Jvm.Cond.classLink "LessonCards" (16 : Nat) "LessonCards$Deck") ∈ mm_gt := mm_in_gt 89 (by decide +kernel) rfl
theorem wd_90 : (Jvm.Cond.instantiable "LessonCards$Deck" (3 : Nat)) ∈ mm_gt := mm_in_gt 90 (by decide +kernel) rfl
theorem wn_91 : (Jvm.Cond.methodLinkNest "LessonCards" (18 : Nat) ({ cls := "LessonCards$Deck", name := "<init>", desc := "()V" } : Jvm.MethodName) "LessonCards") ∈ mm_nt := mm_in_nt 91 (by decide +kernel) rfl
theorem wd_92 : (Jvm.Cond.instanceMethod ({ cls := "LessonCards$Deck", name := "<init>", desc := "()V" } : Jvm.MethodName)) ∈ mm_gt := mm_in_gt 92 (by decide +kernel) rfl
theorem wd_93 : (Jvm.Cond.code ({ cls := "LessonCards$Deck", name := "<init>", desc := "()V" } : Jvm.MethodName) prog_4_method_1_code (1 : Nat) (Option.none : Option Jvm.ClassFile.FieldType)) ∈ mm_gt := mm_in_gt 93 (by decide +kernel) rfl
theorem wd_94 : (Jvm.Cond.methodLink "LessonCards$Deck" (3 : Nat) ({ cls := "java/lang/Object", name := "<init>", desc := "()V" } : Jvm.MethodName)) ∈ mm_gt := mm_in_gt 94 (by decide +kernel) rfl
theorem wd_95 : (Jvm.Cond.classLink "LessonCards$Deck" (9 : Nat) "java/util/ArrayList") ∈ mm_gt := mm_in_gt 95 (by decide +kernel) rfl
theorem wd_96 : (Jvm.Cond.instantiable "java/util/ArrayList" (3 : Nat)) ∈ mm_gt := mm_in_gt 96 (by decide +kernel) rfl
theorem wd_97 : (Jvm.Cond.methodLink "LessonCards$Deck" (11 : Nat) ({ cls := "java/util/ArrayList", name := "<init>", desc := "()V" } : Jvm.MethodName)) ∈ mm_gt := mm_in_gt 97 (by decide +kernel) rfl
theorem wd_98 : (Jvm.Cond.instanceMethod ({ cls := "java/util/ArrayList", name := "<init>", desc := "()V" } : Jvm.MethodName)) ∈ mm_gt := mm_in_gt 98 (by decide +kernel) rfl
theorem wd_99 : (Jvm.Cond.code ({ cls := "java/util/ArrayList", name := "<init>", desc := "()V" } : Jvm.MethodName) prog_20_method_2_code (1 : Nat) (Option.none : Option Jvm.ClassFile.FieldType)) ∈ mm_gt := mm_in_gt 99 (by decide +kernel) rfl
theorem wd_100 : (Jvm.Cond.methodLink "java/util/ArrayList" (1 : Nat) ({ cls := "java/util/AbstractList", name := "<init>", desc := "()V" } : Jvm.MethodName)) ∈ mm_gt := mm_in_gt 100 (by decide +kernel) rfl
theorem wd_101 : (Jvm.Cond.instanceMethod ({ cls := "java/util/AbstractList", name := "<init>", desc := "()V" } : Jvm.MethodName)) ∈ mm_gt := mm_in_gt 101 (by decide +kernel) rfl
theorem wd_102 : (Jvm.Cond.code ({ cls := "java/util/AbstractList", name := "<init>", desc := "()V" } : Jvm.MethodName) prog_19_method_1_code (1 : Nat) (Option.none : Option Jvm.ClassFile.FieldType)) ∈ mm_gt := mm_in_gt 102 (by decide +kernel) rfl
theorem wd_103 : (Jvm.Cond.methodLink "java/util/AbstractList" (1 : Nat) ({ cls := "java/util/AbstractCollection", name := "<init>", desc := "()V" } : Jvm.MethodName)) ∈ mm_gt := mm_in_gt 103 (by decide +kernel) rfl
theorem wd_104 : (Jvm.Cond.instanceMethod ({ cls := "java/util/AbstractCollection", name := "<init>", desc := "()V" } : Jvm.MethodName)) ∈ mm_gt := mm_in_gt 104 (by decide +kernel) rfl
theorem wd_105 : (Jvm.Cond.code ({ cls := "java/util/AbstractCollection", name := "<init>", desc := "()V" } : Jvm.MethodName) prog_18_method_1_code (1 : Nat) (Option.none : Option Jvm.ClassFile.FieldType)) ∈ mm_gt := mm_in_gt 105 (by decide +kernel) rfl
theorem wd_106 : (Jvm.Cond.methodLink "java/util/AbstractCollection" (1 : Nat) ({ cls := "java/lang/Object", name := "<init>", desc := "()V" } : Jvm.MethodName)) ∈ mm_gt := mm_in_gt 106 (by decide +kernel) rfl
theorem wd_107 : (Jvm.Cond.fieldLink "java/util/ArrayList" (39 : Nat) "java/util/ArrayList" "DEFAULTCAPACITY_EMPTY_ELEMENTDATA" "[Ljava/lang/Object;") ∈ mm_gt := mm_in_gt 107 (by decide +kernel) rfl
theorem wd_109 : (Jvm.Cond.fieldLink "java/util/ArrayList" (9 : Nat) "java/util/ArrayList" "elementData" "[Ljava/lang/Object;") ∈ mm_gt := mm_in_gt 109 (by decide +kernel) rfl
theorem wd_110 : (Jvm.Cond.fieldLink "java/util/ArrayList" (48 : Nat) "java/util/ArrayList" "size" "I") ∈ mm_gt := mm_in_gt 110 (by decide +kernel) rfl
theorem wd_111 : (Jvm.Cond.fieldLink "java/util/AbstractList" (7 : Nat) "java/util/AbstractList" "modCount" "I") ∈ mm_gt := mm_in_gt 111 (by decide +kernel) rfl
theorem wd_112 : (Jvm.Cond.fieldLink "java/util/ArrayList" (63 : Nat) "java/util/ArrayList" "modCount" "I") ∈ mm_gt := mm_in_gt 112 (by decide +kernel) rfl
theorem wd_113 : (Jvm.Cond.sameField "java/util/ArrayList" "java/util/AbstractList" "modCount" "I") ∈ mm_gt := mm_in_gt 113 (by decide +kernel) rfl
theorem wd_121 : (Jvm.Cond.fieldLink "LessonCards$Deck" (12 : Nat) "LessonCards$Deck" "cards" "Ljava/util/ArrayList;") ∈ mm_gt := mm_in_gt 121 (by decide +kernel) rfl
theorem wd_122 : (Jvm.Cond.fieldLink "LessonCards$Deck" (18 : Nat) "LessonCards$Deck" "reached" "[I") ∈ mm_gt := mm_in_gt 122 (by decide +kernel) rfl
theorem wd_123 : (Jvm.Cond.fieldLink "LessonCards$Deck" (22 : Nat) "LessonCards$Deck" "isReached" "[Z") ∈ mm_gt := mm_in_gt 123 (by decide +kernel) rfl
theorem wd_131 : (Jvm.Cond.arrayClass Jvm.ClassFile.FieldType.boolean) ∈ mm_gt := mm_in_gt 131 (by decide +kernel) rfl
theorem wd_132 : (Jvm.Cond.classLink "LessonCards" (23 : Nat) "LessonCards$Learner") ∈ mm_gt := mm_in_gt 132 (by decide +kernel) rfl
theorem wd_134 : (Jvm.Cond.instantiable "LessonCards$Learner" (4 : Nat)) ∈ mm_gt := mm_in_gt 134 (by decide +kernel) rfl
theorem wn_135 : (Jvm.Cond.methodLinkNest "LessonCards" (29 : Nat) ({ cls := "LessonCards$Learner", name := "<init>", desc := "()V" } : Jvm.MethodName) "LessonCards") ∈ mm_nt := mm_in_nt 135 (by decide +kernel) rfl
theorem wd_136 : (Jvm.Cond.instanceMethod ({ cls := "LessonCards$Learner", name := "<init>", desc := "()V" } : Jvm.MethodName)) ∈ mm_gt := mm_in_gt 136 (by decide +kernel) rfl
theorem wd_137 : (Jvm.Cond.code ({ cls := "LessonCards$Learner", name := "<init>", desc := "()V" } : Jvm.MethodName) prog_8_method_1_code (1 : Nat) (Option.none : Option Jvm.ClassFile.FieldType)) ∈ mm_gt := mm_in_gt 137 (by decide +kernel) rfl
theorem wd_138 : (Jvm.Cond.methodLink "LessonCards$Learner" (3 : Nat) ({ cls := "java/lang/Object", name := "<init>", desc := "()V" } : Jvm.MethodName)) ∈ mm_gt := mm_in_gt 138 (by decide +kernel) rfl
theorem wd_139 : (Jvm.Cond.classLink "LessonCards$Learner" (9 : Nat) "java/util/ArrayList") ∈ mm_gt := mm_in_gt 139 (by decide +kernel) rfl
theorem wd_140 : (Jvm.Cond.methodLink "LessonCards$Learner" (11 : Nat) ({ cls := "java/util/ArrayList", name := "<init>", desc := "()V" } : Jvm.MethodName)) ∈ mm_gt := mm_in_gt 140 (by decide +kernel) rfl
theorem wd_141 : (Jvm.Cond.fieldLink "LessonCards$Learner" (12 : Nat) "LessonCards$Learner" "hands" "Ljava/util/ArrayList;") ∈ mm_gt := mm_in_gt 141 (by decide +kernel) rfl
theorem wd_142 : (Jvm.Cond.fieldLink "LessonCards$Learner" (18 : Nat) "LessonCards$Learner" "row" "[I") ∈ mm_gt := mm_in_gt 142 (by decide +kernel) rfl
theorem wd_143 : (Jvm.Cond.fieldLink "LessonCards$Learner" (51 : Nat) "LessonCards$Learner" "rowSize" "I") ∈ mm_gt := mm_in_gt 143 (by decide +kernel) rfl
theorem wn_144 : (Jvm.Cond.fieldLinkNest "LessonCards" (114 : Nat) "LessonCards$Learner" "rowSize" "I" "LessonCards") ∈ mm_nt := mm_in_nt 144 (by decide +kernel) rfl
theorem wn_145 : (Jvm.Cond.fieldLinkNest "LessonCards$Evening" (37 : Nat) "LessonCards$Learner" "today" "I" "LessonCards") ∈ mm_nt := mm_in_nt 145 (by decide +kernel) rfl
theorem wd_146 : (Jvm.Cond.fieldLink "LessonCards$Learner" (47 : Nat) "LessonCards$Learner" "today" "I") ∈ mm_gt := mm_in_gt 146 (by decide +kernel) rfl
theorem wn_147 : (Jvm.Cond.fieldLinkNest "LessonCards" (108 : Nat) "LessonCards$Learner" "today" "I" "LessonCards") ∈ mm_nt := mm_in_nt 147 (by decide +kernel) rfl
theorem wd_157 : (Jvm.Cond.classLink "LessonCards" (34 : Nat) "java/util/ArrayList") ∈ mm_gt := mm_in_gt 157 (by decide +kernel) rfl
theorem wd_158 : (Jvm.Cond.methodLink "LessonCards" (36 : Nat) ({ cls := "java/util/ArrayList", name := "<init>", desc := "()V" } : Jvm.MethodName)) ∈ mm_gt := mm_in_gt 158 (by decide +kernel) rfl
theorem wd_159 : (Jvm.Cond.classLink "LessonCards" (41 : Nat) "LessonCards$Evening") ∈ mm_gt := mm_in_gt 159 (by decide +kernel) rfl
theorem wd_160 : (Jvm.Cond.instantiable "LessonCards$Evening" (5 : Nat)) ∈ mm_gt := mm_in_gt 160 (by decide +kernel) rfl
theorem wn_161 : (Jvm.Cond.methodLinkNest "LessonCards" (43 : Nat) ({ cls := "LessonCards$Evening", name := "<init>", desc := "()V" } : Jvm.MethodName) "LessonCards") ∈ mm_nt := mm_in_nt 161 (by decide +kernel) rfl
theorem wd_162 : (Jvm.Cond.instanceMethod ({ cls := "LessonCards$Evening", name := "<init>", desc := "()V" } : Jvm.MethodName)) ∈ mm_gt := mm_in_gt 162 (by decide +kernel) rfl
theorem wd_163 : (Jvm.Cond.code ({ cls := "LessonCards$Evening", name := "<init>", desc := "()V" } : Jvm.MethodName) prog_6_method_1_code (1 : Nat) (Option.none : Option Jvm.ClassFile.FieldType)) ∈ mm_gt := mm_in_gt 163 (by decide +kernel) rfl
theorem wd_164 : (Jvm.Cond.methodLink "LessonCards$Evening" (3 : Nat) ({ cls := "java/lang/Object", name := "<init>", desc := "()V" } : Jvm.MethodName)) ∈ mm_gt := mm_in_gt 164 (by decide +kernel) rfl
theorem wd_165 : (Jvm.Cond.fieldLink "LessonCards$Evening" (9 : Nat) "LessonCards$Evening" "waiting" "[I") ∈ mm_gt := mm_in_gt 165 (by decide +kernel) rfl
theorem wd_166 : (Jvm.Cond.fieldLink "LessonCards$Evening" (21 : Nat) "LessonCards$Evening" "count" "I") ∈ mm_gt := mm_in_gt 166 (by decide +kernel) rfl
theorem wd_167 : (Jvm.Cond.fieldLink "LessonCards$Evening" (15 : Nat) "LessonCards$Evening" "days" "[I") ∈ mm_gt := mm_in_gt 167 (by decide +kernel) rfl
theorem wd_168 : (Jvm.Cond.fieldLink "LessonCards$Evening" (18 : Nat) "LessonCards$Evening" "loads" "[I") ∈ mm_gt := mm_in_gt 168 (by decide +kernel) rfl
theorem wd_169 : (Jvm.Cond.fieldLink "LessonCards$Evening" (48 : Nat) "LessonCards$Evening" "made" "Z") ∈ mm_gt := mm_in_gt 169 (by decide +kernel) rfl
theorem wd_181 : (Jvm.Cond.classLink "LessonCards" (48 : Nat) "LessonCards$LevelTest") ∈ mm_gt := mm_in_gt 181 (by decide +kernel) rfl
theorem wd_182 : (Jvm.Cond.instantiable "LessonCards$LevelTest" (6 : Nat)) ∈ mm_gt := mm_in_gt 182 (by decide +kernel) rfl
theorem wn_183 : (Jvm.Cond.methodLinkNest "LessonCards" (50 : Nat) ({ cls := "LessonCards$LevelTest", name := "<init>", desc := "()V" } : Jvm.MethodName) "LessonCards") ∈ mm_nt := mm_in_nt 183 (by decide +kernel) rfl
theorem wd_184 : (Jvm.Cond.instanceMethod ({ cls := "LessonCards$LevelTest", name := "<init>", desc := "()V" } : Jvm.MethodName)) ∈ mm_gt := mm_in_gt 184 (by decide +kernel) rfl
theorem wd_185 : (Jvm.Cond.code ({ cls := "LessonCards$LevelTest", name := "<init>", desc := "()V" } : Jvm.MethodName) prog_9_method_1_code (1 : Nat) (Option.none : Option Jvm.ClassFile.FieldType)) ∈ mm_gt := mm_in_gt 185 (by decide +kernel) rfl
theorem wd_186 : (Jvm.Cond.methodLink "LessonCards$LevelTest" (3 : Nat) ({ cls := "java/lang/Object", name := "<init>", desc := "()V" } : Jvm.MethodName)) ∈ mm_gt := mm_in_gt 186 (by decide +kernel) rfl
theorem wd_187 : (Jvm.Cond.fieldLink "LessonCards$LevelTest" (9 : Nat) "LessonCards$LevelTest" "weights" "[J") ∈ mm_gt := mm_in_gt 187 (by decide +kernel) rfl
theorem wd_188 : (Jvm.Cond.fieldLink "LessonCards$LevelTest" (25 : Nat) "LessonCards$LevelTest" "levels" "I") ∈ mm_gt := mm_in_gt 188 (by decide +kernel) rfl
theorem wn_189 : (Jvm.Cond.fieldLinkNest "LessonCards" (265 : Nat) "LessonCards$LevelTest" "levels" "I" "LessonCards") ∈ mm_nt := mm_in_nt 189 (by decide +kernel) rfl
theorem wd_190 : (Jvm.Cond.fieldLink "LessonCards$LevelTest" (29 : Nat) "LessonCards$LevelTest" "slip" "I") ∈ mm_gt := mm_in_gt 190 (by decide +kernel) rfl
theorem wd_191 : (Jvm.Cond.fieldLink "LessonCards$LevelTest" (32 : Nat) "LessonCards$LevelTest" "guess" "I") ∈ mm_gt := mm_in_gt 191 (by decide +kernel) rfl
theorem wd_192 : (Jvm.Cond.fieldLink "LessonCards$LevelTest" (35 : Nat) "LessonCards$LevelTest" "asked" "I") ∈ mm_gt := mm_in_gt 192 (by decide +kernel) rfl
theorem wd_193 : (Jvm.Cond.fieldLink "LessonCards$LevelTest" (15 : Nat) "LessonCards$LevelTest" "over" "Z") ∈ mm_gt := mm_in_gt 193 (by decide +kernel) rfl
theorem wn_194 : (Jvm.Cond.fieldLinkNest "LessonCards" (262 : Nat) "LessonCards$LevelTest" "over" "Z" "LessonCards") ∈ mm_nt := mm_in_nt 194 (by decide +kernel) rfl
theorem wd_208 : (Jvm.Cond.arrayClass Jvm.ClassFile.FieldType.long) ∈ mm_gt := mm_in_gt 208 (by decide +kernel) rfl
theorem wd_209 : (Jvm.Cond.fieldLink "LessonCards" (12 : Nat) "LessonCards" "curve" "LLessonCards$Curve;") ∈ mm_gt := mm_in_gt 209 (by decide +kernel) rfl
theorem wd_210 : (Jvm.Cond.fieldLink "LessonCards" (19 : Nat) "LessonCards" "deck" "LLessonCards$Deck;") ∈ mm_gt := mm_in_gt 210 (by decide +kernel) rfl
theorem wd_211 : (Jvm.Cond.fieldLink "LessonCards" (25 : Nat) "LessonCards" "learners" "[LLessonCards$Learner;") ∈ mm_gt := mm_in_gt 211 (by decide +kernel) rfl
theorem wd_212 : (Jvm.Cond.fieldLink "LessonCards" (30 : Nat) "LessonCards" "shadow" "LLessonCards$Learner;") ∈ mm_gt := mm_in_gt 212 (by decide +kernel) rfl
theorem wd_213 : (Jvm.Cond.fieldLink "LessonCards" (37 : Nat) "LessonCards" "entries" "Ljava/util/ArrayList;") ∈ mm_gt := mm_in_gt 213 (by decide +kernel) rfl
theorem wd_214 : (Jvm.Cond.fieldLink "LessonCards" (44 : Nat) "LessonCards" "evening" "LLessonCards$Evening;") ∈ mm_gt := mm_in_gt 214 (by decide +kernel) rfl
theorem wd_215 : (Jvm.Cond.fieldLink "LessonCards" (51 : Nat) "LessonCards" "levelTest" "LLessonCards$LevelTest;") ∈ mm_gt := mm_in_gt 215 (by decide +kernel) rfl
theorem wd_216 : (Jvm.Cond.fieldLink "LessonCards" (55 : Nat) "LessonCards" "numbers" "[I") ∈ mm_gt := mm_in_gt 216 (by decide +kernel) rfl
theorem wd_217 : (Jvm.Cond.fieldLink "LessonCards" (59 : Nat) "LessonCards" "ruleNow" "I") ∈ mm_gt := mm_in_gt 217 (by decide +kernel) rfl
theorem wd_218 : (Jvm.Cond.fieldLink "LessonCards" (63 : Nat) "LessonCards" "mostDue" "I") ∈ mm_gt := mm_in_gt 218 (by decide +kernel) rfl
theorem wd_219 : (Jvm.Cond.fieldLink "LessonCards" (66 : Nat) "LessonCards" "mostNew" "I") ∈ mm_gt := mm_in_gt 219 (by decide +kernel) rfl
theorem wd_243 : (Jvm.Cond.methodLink "LessonCardsLaw" (13 : Nat) ({ cls := "LessonCards", name := "card", desc := "(I)I" } : Jvm.MethodName)) ∈ mm_gt := mm_in_gt 243 (by decide +kernel) rfl
theorem wd_244 : (Jvm.Cond.instanceMethod ({ cls := "LessonCards", name := "card", desc := "(I)I" } : Jvm.MethodName)) ∈ mm_gt := mm_in_gt 244 (by decide +kernel) rfl
theorem wd_245 : (Jvm.Cond.selects "LessonCards" ({ cls := "LessonCards", name := "card", desc := "(I)I" } : Jvm.MethodName) ({ cls := "LessonCards", name := "card", desc := "(I)I" } : Jvm.MethodName)) ∈ mm_gt := mm_in_gt 245 (by decide +kernel) rfl
theorem wd_246 : (Jvm.Cond.code ({ cls := "LessonCards", name := "card", desc := "(I)I" } : Jvm.MethodName) prog_1_method_2_code (3 : Nat) (Option.some Jvm.ClassFile.FieldType.int)) ∈ mm_gt := mm_in_gt 246 (by decide +kernel) rfl
theorem wd_247 : (Jvm.Cond.methodLink "LessonCards" (69 : Nat) ({ cls := "LessonCards$Deck", name := "size", desc := "()I" } : Jvm.MethodName)) ∈ mm_gt := mm_in_gt 247 (by decide +kernel) rfl
theorem wd_248 : (Jvm.Cond.instanceMethod ({ cls := "LessonCards$Deck", name := "size", desc := "()I" } : Jvm.MethodName)) ∈ mm_gt := mm_in_gt 248 (by decide +kernel) rfl
theorem wd_249 : (Jvm.Cond.selects "LessonCards$Deck" ({ cls := "LessonCards$Deck", name := "size", desc := "()I" } : Jvm.MethodName) ({ cls := "LessonCards$Deck", name := "size", desc := "()I" } : Jvm.MethodName)) ∈ mm_gt := mm_in_gt 249 (by decide +kernel) rfl
theorem wd_250 : (Jvm.Cond.code ({ cls := "LessonCards$Deck", name := "size", desc := "()I" } : Jvm.MethodName) prog_4_method_2_code (1 : Nat) (Option.some Jvm.ClassFile.FieldType.int)) ∈ mm_gt := mm_in_gt 250 (by decide +kernel) rfl
theorem wd_251 : (Jvm.Cond.methodLink "LessonCards$Deck" (26 : Nat) ({ cls := "java/util/ArrayList", name := "size", desc := "()I" } : Jvm.MethodName)) ∈ mm_gt := mm_in_gt 251 (by decide +kernel) rfl
theorem wd_252 : (Jvm.Cond.instanceMethod ({ cls := "java/util/ArrayList", name := "size", desc := "()I" } : Jvm.MethodName)) ∈ mm_gt := mm_in_gt 252 (by decide +kernel) rfl
theorem wd_253 : (Jvm.Cond.selects "java/util/ArrayList" ({ cls := "java/util/ArrayList", name := "size", desc := "()I" } : Jvm.MethodName) ({ cls := "java/util/ArrayList", name := "size", desc := "()I" } : Jvm.MethodName)) ∈ mm_gt := mm_in_gt 253 (by decide +kernel) rfl
theorem wd_254 : (Jvm.Cond.code ({ cls := "java/util/ArrayList", name := "size", desc := "()I" } : Jvm.MethodName) prog_20_method_8_code (1 : Nat) (Option.some Jvm.ClassFile.FieldType.int)) ∈ mm_gt := mm_in_gt 254 (by decide +kernel) rfl
theorem wd_255 : (Jvm.Cond.methodLink "LessonCards" (73 : Nat) ({ cls := "LessonCards$Learner", name := "addCard", desc := "(I)V" } : Jvm.MethodName)) ∈ mm_gt := mm_in_gt 255 (by decide +kernel) rfl
theorem wd_256 : (Jvm.Cond.instanceMethod ({ cls := "LessonCards$Learner", name := "addCard", desc := "(I)V" } : Jvm.MethodName)) ∈ mm_gt := mm_in_gt 256 (by decide +kernel) rfl
theorem wd_257 : (Jvm.Cond.selects "LessonCards$Learner" ({ cls := "LessonCards$Learner", name := "addCard", desc := "(I)V" } : Jvm.MethodName) ({ cls := "LessonCards$Learner", name := "addCard", desc := "(I)V" } : Jvm.MethodName)) ∈ mm_gt := mm_in_gt 257 (by decide +kernel) rfl
theorem wd_258 : (Jvm.Cond.code ({ cls := "LessonCards$Learner", name := "addCard", desc := "(I)V" } : Jvm.MethodName) prog_8_method_2_code (2 : Nat) (Option.none : Option Jvm.ClassFile.FieldType)) ∈ mm_gt := mm_in_gt 258 (by decide +kernel) rfl
theorem wd_259 : (Jvm.Cond.classLink "LessonCards$Learner" (22 : Nat) "LessonCards$Hand") ∈ mm_gt := mm_in_gt 259 (by decide +kernel) rfl
theorem wd_260 : (Jvm.Cond.instantiable "LessonCards$Hand" (1 : Nat)) ∈ mm_gt := mm_in_gt 260 (by decide +kernel) rfl
theorem wd_261 : (Jvm.Cond.methodLink "LessonCards$Learner" (24 : Nat) ({ cls := "LessonCards$Hand", name := "<init>", desc := "(I)V" } : Jvm.MethodName)) ∈ mm_gt := mm_in_gt 261 (by decide +kernel) rfl
theorem wd_262 : (Jvm.Cond.instanceMethod ({ cls := "LessonCards$Hand", name := "<init>", desc := "(I)V" } : Jvm.MethodName)) ∈ mm_gt := mm_in_gt 262 (by decide +kernel) rfl
theorem wd_263 : (Jvm.Cond.code ({ cls := "LessonCards$Hand", name := "<init>", desc := "(I)V" } : Jvm.MethodName) prog_7_method_1_code (3 : Nat) (Option.none : Option Jvm.ClassFile.FieldType)) ∈ mm_gt := mm_in_gt 263 (by decide +kernel) rfl
theorem wd_264 : (Jvm.Cond.methodLink "LessonCards$Hand" (3 : Nat) ({ cls := "java/lang/Object", name := "<init>", desc := "()V" } : Jvm.MethodName)) ∈ mm_gt := mm_in_gt 264 (by decide +kernel) rfl
theorem wd_265 : (Jvm.Cond.classLink "LessonCards$Hand" (9 : Nat) "LessonCards$Memory") ∈ mm_gt := mm_in_gt 265 (by decide +kernel) rfl
theorem wd_267 : (Jvm.Cond.instantiable "LessonCards$Memory" (7 : Nat)) ∈ mm_gt := mm_in_gt 267 (by decide +kernel) rfl
theorem wn_268 : (Jvm.Cond.methodLinkNest "LessonCards$Hand" (17 : Nat) ({ cls := "LessonCards$Memory", name := "<init>", desc := "()V" } : Jvm.MethodName) "LessonCards") ∈ mm_nt := mm_in_nt 268 (by decide +kernel) rfl
theorem wd_269 : (Jvm.Cond.instanceMethod ({ cls := "LessonCards$Memory", name := "<init>", desc := "()V" } : Jvm.MethodName)) ∈ mm_gt := mm_in_gt 269 (by decide +kernel) rfl
theorem wd_270 : (Jvm.Cond.code ({ cls := "LessonCards$Memory", name := "<init>", desc := "()V" } : Jvm.MethodName) prog_10_method_1_code (1 : Nat) (Option.none : Option Jvm.ClassFile.FieldType)) ∈ mm_gt := mm_in_gt 270 (by decide +kernel) rfl
theorem wd_271 : (Jvm.Cond.methodLink "LessonCards$Memory" (3 : Nat) ({ cls := "java/lang/Object", name := "<init>", desc := "()V" } : Jvm.MethodName)) ∈ mm_gt := mm_in_gt 271 (by decide +kernel) rfl
theorem wd_272 : (Jvm.Cond.fieldLink "LessonCards$Memory" (23 : Nat) "LessonCards$Memory" "strength" "I") ∈ mm_gt := mm_in_gt 272 (by decide +kernel) rfl
theorem wn_273 : (Jvm.Cond.fieldLinkNest "LessonCards" (289 : Nat) "LessonCards$Memory" "strength" "I" "LessonCards") ∈ mm_nt := mm_in_nt 273 (by decide +kernel) rfl
theorem wd_274 : (Jvm.Cond.fieldLink "LessonCards$Memory" (9 : Nat) "LessonCards$Memory" "ease" "I") ∈ mm_gt := mm_in_gt 274 (by decide +kernel) rfl
theorem wd_275 : (Jvm.Cond.fieldLink "LessonCards$Memory" (26 : Nat) "LessonCards$Memory" "box" "I") ∈ mm_gt := mm_in_gt 275 (by decide +kernel) rfl
theorem wd_276 : (Jvm.Cond.fieldLink "LessonCards$Memory" (15 : Nat) "LessonCards$Memory" "day" "I") ∈ mm_gt := mm_in_gt 276 (by decide +kernel) rfl
theorem wd_277 : (Jvm.Cond.fieldLink "LessonCards$Memory" (29 : Nat) "LessonCards$Memory" "agains" "I") ∈ mm_gt := mm_in_gt 277 (by decide +kernel) rfl
theorem wn_278 : (Jvm.Cond.fieldLinkNest "LessonCards$Hand" (26 : Nat) "LessonCards$Memory" "buried" "Z" "LessonCards") ∈ mm_nt := mm_in_nt 278 (by decide +kernel) rfl
theorem wd_279 : (Jvm.Cond.fieldLink "LessonCards$Memory" (32 : Nat) "LessonCards$Memory" "buried" "Z") ∈ mm_gt := mm_in_gt 279 (by decide +kernel) rfl
theorem wn_280 : (Jvm.Cond.fieldLinkNest "LessonCards" (166 : Nat) "LessonCards$Memory" "buried" "Z" "LessonCards") ∈ mm_nt := mm_in_nt 280 (by decide +kernel) rfl
theorem wd_281 : (Jvm.Cond.fieldLink "LessonCards$Memory" (36 : Nat) "LessonCards$Memory" "backs" "I") ∈ mm_gt := mm_in_gt 281 (by decide +kernel) rfl
theorem wd_297 : (Jvm.Cond.fieldLink "LessonCards$Hand" (11 : Nat) "LessonCards$Hand" "memories" "[LLessonCards$Memory;") ∈ mm_gt := mm_in_gt 297 (by decide +kernel) rfl
theorem wd_301 : (Jvm.Cond.methodLink "LessonCards$Learner" (27 : Nat) ({ cls := "java/util/ArrayList", name := "add", desc := "(Ljava/lang/Object;)Z" } : Jvm.MethodName)) ∈ mm_gt := mm_in_gt 301 (by decide +kernel) rfl
theorem wd_302 : (Jvm.Cond.instanceMethod ({ cls := "java/util/ArrayList", name := "add", desc := "(Ljava/lang/Object;)Z" } : Jvm.MethodName)) ∈ mm_gt := mm_in_gt 302 (by decide +kernel) rfl
theorem wd_303 : (Jvm.Cond.selects "java/util/ArrayList" ({ cls := "java/util/ArrayList", name := "add", desc := "(Ljava/lang/Object;)Z" } : Jvm.MethodName) ({ cls := "java/util/ArrayList", name := "add", desc := "(Ljava/lang/Object;)Z" } : Jvm.MethodName)) ∈ mm_gt := mm_in_gt 303 (by decide +kernel) rfl
theorem wd_304 : (Jvm.Cond.code ({ cls := "java/util/ArrayList", name := "add", desc := "(Ljava/lang/Object;)Z" } : Jvm.MethodName) prog_20_method_25_code (2 : Nat) (Option.some Jvm.ClassFile.FieldType.boolean)) ∈ mm_gt := mm_in_gt 304 (by decide +kernel) rfl
theorem wd_305 : (Jvm.Cond.methodLink "java/util/ArrayList" (131 : Nat) ({ cls := "java/util/ArrayList", name := "add", desc := "(Ljava/lang/Object;[Ljava/lang/Object;I)V" } : Jvm.MethodName)) ∈ mm_gt := mm_in_gt 305 (by decide +kernel) rfl
theorem wd_307 : (Jvm.Cond.instanceMethod ({ cls := "java/util/ArrayList", name := "add", desc := "(Ljava/lang/Object;[Ljava/lang/Object;I)V" } : Jvm.MethodName)) ∈ mm_gt := mm_in_gt 307 (by decide +kernel) rfl
theorem wd_308 : (Jvm.Cond.code ({ cls := "java/util/ArrayList", name := "add", desc := "(Ljava/lang/Object;[Ljava/lang/Object;I)V" } : Jvm.MethodName) prog_20_method_24_code (4 : Nat) (Option.none : Option Jvm.ClassFile.FieldType)) ∈ mm_gt := mm_in_gt 308 (by decide +kernel) rfl
theorem wd_309 : (Jvm.Cond.methodLink "java/util/ArrayList" (129 : Nat) ({ cls := "java/util/ArrayList", name := "grow", desc := "()[Ljava/lang/Object;" } : Jvm.MethodName)) ∈ mm_gt := mm_in_gt 309 (by decide +kernel) rfl
theorem wd_311 : (Jvm.Cond.instanceMethod ({ cls := "java/util/ArrayList", name := "grow", desc := "()[Ljava/lang/Object;" } : Jvm.MethodName)) ∈ mm_gt := mm_in_gt 311 (by decide +kernel) rfl
theorem wd_312 : (Jvm.Cond.code ({ cls := "java/util/ArrayList", name := "grow", desc := "()[Ljava/lang/Object;" } : Jvm.MethodName) prog_20_method_7_code (1 : Nat) (Option.some (Jvm.ClassFile.FieldType.array (Jvm.ClassFile.FieldType.object "java/lang/Object")))) ∈ mm_gt := mm_in_gt 312 (by decide +kernel) rfl
theorem wd_313 : (Jvm.Cond.methodLink "java/util/ArrayList" (69 : Nat) ({ cls := "java/util/ArrayList", name := "grow", desc := "(I)[Ljava/lang/Object;" } : Jvm.MethodName)) ∈ mm_gt := mm_in_gt 313 (by decide +kernel) rfl
theorem wd_315 : (Jvm.Cond.instanceMethod ({ cls := "java/util/ArrayList", name := "grow", desc := "(I)[Ljava/lang/Object;" } : Jvm.MethodName)) ∈ mm_gt := mm_in_gt 315 (by decide +kernel) rfl
theorem wd_316 : (Jvm.Cond.code ({ cls := "java/util/ArrayList", name := "grow", desc := "(I)[Ljava/lang/Object;" } : Jvm.MethodName) prog_20_method_6_code (4 : Nat) (Option.some (Jvm.ClassFile.FieldType.array (Jvm.ClassFile.FieldType.object "java/lang/Object")))) ∈ mm_gt := mm_in_gt 316 (by decide +kernel) rfl
theorem wd_317 : (Jvm.Cond.methodLink "java/util/ArrayList" (73 : Nat) ({ cls := "jdk/internal/util/ArraysSupport", name := "newLength", desc := "(III)I" } : Jvm.MethodName)) ∈ mm_gt := mm_in_gt 317 (by decide +kernel) rfl
theorem wd_318 : (Jvm.Cond.static ({ cls := "jdk/internal/util/ArraysSupport", name := "newLength", desc := "(III)I" } : Jvm.MethodName)) ∈ mm_gt := mm_in_gt 318 (by decide +kernel) rfl
theorem wd_319 : (Jvm.Cond.code ({ cls := "jdk/internal/util/ArraysSupport", name := "newLength", desc := "(III)I" } : Jvm.MethodName) prog_27_method_27_code (4 : Nat) (Option.some Jvm.ClassFile.FieldType.int)) ∈ mm_gt := mm_in_gt 319 (by decide +kernel) rfl
theorem wd_320 : (Jvm.Cond.methodLink "jdk/internal/util/ArraysSupport" (194 : Nat) ({ cls := "java/lang/Math", name := "max", desc := "(II)I" } : Jvm.MethodName)) ∈ mm_gt := mm_in_gt 320 (by decide +kernel) rfl
theorem wd_321 : (Jvm.Cond.static ({ cls := "java/lang/Math", name := "max", desc := "(II)I" } : Jvm.MethodName)) ∈ mm_gt := mm_in_gt 321 (by decide +kernel) rfl
theorem wd_322 : (Jvm.Cond.code ({ cls := "java/lang/Math", name := "max", desc := "(II)I" } : Jvm.MethodName) prog_16_method_65_code (2 : Nat) (Option.some Jvm.ClassFile.FieldType.int)) ∈ mm_gt := mm_in_gt 322 (by decide +kernel) rfl
theorem wd_323 : (Jvm.Cond.constant "jdk/internal/util/ArraysSupport" (200 : Nat) (2147483639 : Int32)) ∈ mm_gt := mm_in_gt 323 (by decide +kernel) rfl
theorem wd_324 : (Jvm.Cond.methodLink "jdk/internal/util/ArraysSupport" (201 : Nat) ({ cls := "jdk/internal/util/ArraysSupport", name := "hugeLength", desc := "(II)I" } : Jvm.MethodName)) ∈ mm_gt := mm_in_gt 324 (by decide +kernel) rfl
theorem wd_325 : (Jvm.Cond.static ({ cls := "jdk/internal/util/ArraysSupport", name := "hugeLength", desc := "(II)I" } : Jvm.MethodName)) ∈ mm_gt := mm_in_gt 325 (by decide +kernel) rfl
theorem wd_326 : (Jvm.Cond.code ({ cls := "jdk/internal/util/ArraysSupport", name := "hugeLength", desc := "(II)I" } : Jvm.MethodName) prog_27_method_28_code (3 : Nat) (Option.some Jvm.ClassFile.FieldType.int)) ∈ mm_gt := mm_in_gt 326 (by decide +kernel) rfl
theorem wd_327 : (Jvm.Cond.methodLink "java/util/ArrayList" (66 : Nat) ({ cls := "java/util/Arrays", name := "copyOf", desc := "([Ljava/lang/Object;I)[Ljava/lang/Object;" } : Jvm.MethodName)) ∈ mm_gt := mm_in_gt 327 (by decide +kernel) rfl
theorem wd_328 : (Jvm.Cond.static ({ cls := "java/util/Arrays", name := "copyOf", desc := "([Ljava/lang/Object;I)[Ljava/lang/Object;" } : Jvm.MethodName)) ∈ mm_gt := mm_in_gt 328 (by decide +kernel) rfl
theorem wd_329 : (Jvm.Cond.code ({ cls := "java/util/Arrays", name := "copyOf", desc := "([Ljava/lang/Object;I)[Ljava/lang/Object;" } : Jvm.MethodName) prog_21_method_119_code (2 : Nat) (Option.some (Jvm.ClassFile.FieldType.array (Jvm.ClassFile.FieldType.object "java/lang/Object")))) ∈ mm_gt := mm_in_gt 329 (by decide +kernel) rfl
theorem wd_330 : (Jvm.Cond.methodLink "java/util/Arrays" (86 : Nat) ({ cls := "java/lang/Object", name := "getClass", desc := "()Ljava/lang/Class;" } : Jvm.MethodName)) ∈ mm_gt := mm_in_gt 330 (by decide +kernel) rfl
theorem wd_331 : (Jvm.Cond.instanceMethod ({ cls := "java/lang/Object", name := "getClass", desc := "()Ljava/lang/Class;" } : Jvm.MethodName)) ∈ mm_gt := mm_in_gt 331 (by decide +kernel) rfl
theorem wd_345 : (Jvm.Cond.native ({ cls := "java/lang/Object", name := "getClass", desc := "()Ljava/lang/Class;" } : Jvm.MethodName)) ∈ mm_gt := mm_in_gt 345 (by decide +kernel) rfl
theorem wd_346 : (Jvm.Cond.methodLink "java/util/Arrays" (300 : Nat) ({ cls := "java/util/Arrays", name := "copyOf", desc := "([Ljava/lang/Object;ILjava/lang/Class;)[Ljava/lang/Object;" } : Jvm.MethodName)) ∈ mm_gt := mm_in_gt 346 (by decide +kernel) rfl
theorem wd_347 : (Jvm.Cond.static ({ cls := "java/util/Arrays", name := "copyOf", desc := "([Ljava/lang/Object;ILjava/lang/Class;)[Ljava/lang/Object;" } : Jvm.MethodName)) ∈ mm_gt := mm_in_gt 347 (by decide +kernel) rfl
theorem wd_348 : (Jvm.Cond.code ({ cls := "java/util/Arrays", name := "copyOf", desc := "([Ljava/lang/Object;ILjava/lang/Class;)[Ljava/lang/Object;" } : Jvm.MethodName) prog_21_method_120_code (4 : Nat) (Option.some (Jvm.ClassFile.FieldType.array (Jvm.ClassFile.FieldType.object "java/lang/Object")))) ∈ mm_gt := mm_in_gt 348 (by decide +kernel) rfl
theorem wd_349 : (Jvm.Cond.classLink "java/util/Arrays" (110 : Nat) "[Ljava/lang/Object;") ∈ mm_gt := mm_in_gt 349 (by decide +kernel) rfl
theorem wd_351 : (Jvm.Cond.classLink "java/util/Arrays" (2 : Nat) "java/lang/Object") ∈ mm_gt := mm_in_gt 351 (by decide +kernel) rfl
theorem wd_352 : (Jvm.Cond.methodLink "java/util/Arrays" (304 : Nat) ({ cls := "java/lang/Math", name := "min", desc := "(II)I" } : Jvm.MethodName)) ∈ mm_gt := mm_in_gt 352 (by decide +kernel) rfl
theorem wd_353 : (Jvm.Cond.static ({ cls := "java/lang/Math", name := "min", desc := "(II)I" } : Jvm.MethodName)) ∈ mm_gt := mm_in_gt 353 (by decide +kernel) rfl
theorem wd_354 : (Jvm.Cond.code ({ cls := "java/lang/Math", name := "min", desc := "(II)I" } : Jvm.MethodName) prog_16_method_69_code (2 : Nat) (Option.some Jvm.ClassFile.FieldType.int)) ∈ mm_gt := mm_in_gt 354 (by decide +kernel) rfl
theorem wd_355 : (Jvm.Cond.methodLink "java/util/Arrays" (150 : Nat) ({ cls := "java/lang/System", name := "arraycopy", desc := "(Ljava/lang/Object;ILjava/lang/Object;II)V" } : Jvm.MethodName)) ∈ mm_gt := mm_in_gt 355 (by decide +kernel) rfl
theorem wd_356 : (Jvm.Cond.static ({ cls := "java/lang/System", name := "arraycopy", desc := "(Ljava/lang/Object;ILjava/lang/Object;II)V" } : Jvm.MethodName)) ∈ mm_gt := mm_in_gt 356 (by decide +kernel) rfl
theorem wd_357 : (Jvm.Cond.native ({ cls := "java/lang/System", name := "arraycopy", desc := "(Ljava/lang/Object;ILjava/lang/Object;II)V" } : Jvm.MethodName)) ∈ mm_gt := mm_in_gt 357 (by decide +kernel) rfl
theorem wd_358 : (Jvm.Cond.methodLink "java/util/ArrayList" (79 : Nat) ({ cls := "java/lang/Math", name := "max", desc := "(II)I" } : Jvm.MethodName)) ∈ mm_gt := mm_in_gt 358 (by decide +kernel) rfl
theorem wd_359 : (Jvm.Cond.classLink "java/util/ArrayList" (7 : Nat) "java/lang/Object") ∈ mm_gt := mm_in_gt 359 (by decide +kernel) rfl
theorem wd_360 : (Jvm.Cond.methodLink "LessonCards" (77 : Nat) ({ cls := "LessonCards$Deck", name := "addCard", desc := "()I" } : Jvm.MethodName)) ∈ mm_gt := mm_in_gt 360 (by decide +kernel) rfl
theorem wd_361 : (Jvm.Cond.instanceMethod ({ cls := "LessonCards$Deck", name := "addCard", desc := "()I" } : Jvm.MethodName)) ∈ mm_gt := mm_in_gt 361 (by decide +kernel) rfl
theorem wd_362 : (Jvm.Cond.selects "LessonCards$Deck" ({ cls := "LessonCards$Deck", name := "addCard", desc := "()I" } : Jvm.MethodName) ({ cls := "LessonCards$Deck", name := "addCard", desc := "()I" } : Jvm.MethodName)) ∈ mm_gt := mm_in_gt 362 (by decide +kernel) rfl
theorem wd_363 : (Jvm.Cond.code ({ cls := "LessonCards$Deck", name := "addCard", desc := "()I" } : Jvm.MethodName) prog_4_method_3_code (1 : Nat) (Option.some Jvm.ClassFile.FieldType.int)) ∈ mm_gt := mm_in_gt 363 (by decide +kernel) rfl
theorem wd_364 : (Jvm.Cond.classLink "LessonCards$Deck" (30 : Nat) "LessonCards$Card") ∈ mm_gt := mm_in_gt 364 (by decide +kernel) rfl
theorem wd_365 : (Jvm.Cond.instantiable "LessonCards$Card" (2 : Nat)) ∈ mm_gt := mm_in_gt 365 (by decide +kernel) rfl
theorem wn_366 : (Jvm.Cond.methodLinkNest "LessonCards$Deck" (32 : Nat) ({ cls := "LessonCards$Card", name := "<init>", desc := "()V" } : Jvm.MethodName) "LessonCards") ∈ mm_nt := mm_in_nt 366 (by decide +kernel) rfl
theorem wd_367 : (Jvm.Cond.instanceMethod ({ cls := "LessonCards$Card", name := "<init>", desc := "()V" } : Jvm.MethodName)) ∈ mm_gt := mm_in_gt 367 (by decide +kernel) rfl
theorem wd_368 : (Jvm.Cond.code ({ cls := "LessonCards$Card", name := "<init>", desc := "()V" } : Jvm.MethodName) prog_2_method_1_code (1 : Nat) (Option.none : Option Jvm.ClassFile.FieldType)) ∈ mm_gt := mm_in_gt 368 (by decide +kernel) rfl
theorem wd_369 : (Jvm.Cond.methodLink "LessonCards$Card" (3 : Nat) ({ cls := "java/lang/Object", name := "<init>", desc := "()V" } : Jvm.MethodName)) ∈ mm_gt := mm_in_gt 369 (by decide +kernel) rfl
theorem wd_370 : (Jvm.Cond.fieldLink "LessonCards$Card" (9 : Nat) "LessonCards$Card" "leans" "[I") ∈ mm_gt := mm_in_gt 370 (by decide +kernel) rfl
theorem wn_371 : (Jvm.Cond.fieldLinkNest "LessonCards$Deck" (53 : Nat) "LessonCards$Card" "leans" "[I" "LessonCards") ∈ mm_nt := mm_in_nt 371 (by decide +kernel) rfl
theorem wn_372 : (Jvm.Cond.fieldLinkNest "LessonCards$Learner" (129 : Nat) "LessonCards$Card" "leans" "[I" "LessonCards") ∈ mm_nt := mm_in_nt 372 (by decide +kernel) rfl
theorem wd_373 : (Jvm.Cond.fieldLink "LessonCards$Card" (15 : Nat) "LessonCards$Card" "leanCount" "I") ∈ mm_gt := mm_in_gt 373 (by decide +kernel) rfl
theorem wn_374 : (Jvm.Cond.fieldLinkNest "LessonCards$Deck" (49 : Nat) "LessonCards$Card" "leanCount" "I" "LessonCards") ∈ mm_nt := mm_in_nt 374 (by decide +kernel) rfl
theorem wn_375 : (Jvm.Cond.fieldLinkNest "LessonCards$Learner" (124 : Nat) "LessonCards$Card" "leanCount" "I" "LessonCards") ∈ mm_nt := mm_in_nt 375 (by decide +kernel) rfl
theorem wd_381 : (Jvm.Cond.methodLink "LessonCards$Deck" (33 : Nat) ({ cls := "java/util/ArrayList", name := "add", desc := "(Ljava/lang/Object;)Z" } : Jvm.MethodName)) ∈ mm_gt := mm_in_gt 381 (by decide +kernel) rfl
theorem wd_382 : (Jvm.Cond.methodLink "LessonCardsLaw" (18 : Nat) ({ cls := "LessonCards", name := "lean", desc := "(II)I" } : Jvm.MethodName)) ∈ mm_gt := mm_in_gt 382 (by decide +kernel) rfl
theorem wd_383 : (Jvm.Cond.instanceMethod ({ cls := "LessonCards", name := "lean", desc := "(II)I" } : Jvm.MethodName)) ∈ mm_gt := mm_in_gt 383 (by decide +kernel) rfl
theorem wd_384 : (Jvm.Cond.selects "LessonCards" ({ cls := "LessonCards", name := "lean", desc := "(II)I" } : Jvm.MethodName) ({ cls := "LessonCards", name := "lean", desc := "(II)I" } : Jvm.MethodName)) ∈ mm_gt := mm_in_gt 384 (by decide +kernel) rfl
theorem wd_385 : (Jvm.Cond.code ({ cls := "LessonCards", name := "lean", desc := "(II)I" } : Jvm.MethodName) prog_1_method_3_code (4 : Nat) (Option.some Jvm.ClassFile.FieldType.int)) ∈ mm_gt := mm_in_gt 385 (by decide +kernel) rfl
theorem wd_386 : (Jvm.Cond.methodLink "LessonCards" (79 : Nat) ({ cls := "LessonCards$Deck", name := "cardAt", desc := "(I)LLessonCards$Card;" } : Jvm.MethodName)) ∈ mm_gt := mm_in_gt 386 (by decide +kernel) rfl
theorem wd_387 : (Jvm.Cond.instanceMethod ({ cls := "LessonCards$Deck", name := "cardAt", desc := "(I)LLessonCards$Card;" } : Jvm.MethodName)) ∈ mm_gt := mm_in_gt 387 (by decide +kernel) rfl
theorem wd_388 : (Jvm.Cond.selects "LessonCards$Deck" ({ cls := "LessonCards$Deck", name := "cardAt", desc := "(I)LLessonCards$Card;" } : Jvm.MethodName) ({ cls := "LessonCards$Deck", name := "cardAt", desc := "(I)LLessonCards$Card;" } : Jvm.MethodName)) ∈ mm_gt := mm_in_gt 388 (by decide +kernel) rfl
theorem wd_389 : (Jvm.Cond.code ({ cls := "LessonCards$Deck", name := "cardAt", desc := "(I)LLessonCards$Card;" } : Jvm.MethodName) prog_4_method_4_code (2 : Nat) (Option.some (Jvm.ClassFile.FieldType.object "LessonCards$Card"))) ∈ mm_gt := mm_in_gt 389 (by decide +kernel) rfl
theorem wd_390 : (Jvm.Cond.methodLink "LessonCards$Deck" (37 : Nat) ({ cls := "java/util/ArrayList", name := "get", desc := "(I)Ljava/lang/Object;" } : Jvm.MethodName)) ∈ mm_gt := mm_in_gt 390 (by decide +kernel) rfl
theorem wd_391 : (Jvm.Cond.instanceMethod ({ cls := "java/util/ArrayList", name := "get", desc := "(I)Ljava/lang/Object;" } : Jvm.MethodName)) ∈ mm_gt := mm_in_gt 391 (by decide +kernel) rfl
theorem wd_392 : (Jvm.Cond.selects "java/util/ArrayList" ({ cls := "java/util/ArrayList", name := "get", desc := "(I)Ljava/lang/Object;" } : Jvm.MethodName) ({ cls := "java/util/ArrayList", name := "get", desc := "(I)Ljava/lang/Object;" } : Jvm.MethodName)) ∈ mm_gt := mm_in_gt 392 (by decide +kernel) rfl
theorem wd_393 : (Jvm.Cond.code ({ cls := "java/util/ArrayList", name := "get", desc := "(I)Ljava/lang/Object;" } : Jvm.MethodName) prog_20_method_20_code (2 : Nat) (Option.some (Jvm.ClassFile.FieldType.object "java/lang/Object"))) ∈ mm_gt := mm_in_gt 393 (by decide +kernel) rfl
theorem wd_394 : (Jvm.Cond.methodLink "java/util/ArrayList" (118 : Nat) ({ cls := "java/util/Objects", name := "checkIndex", desc := "(II)I" } : Jvm.MethodName)) ∈ mm_gt := mm_in_gt 394 (by decide +kernel) rfl
theorem wd_395 : (Jvm.Cond.static ({ cls := "java/util/Objects", name := "checkIndex", desc := "(II)I" } : Jvm.MethodName)) ∈ mm_gt := mm_in_gt 395 (by decide +kernel) rfl
theorem wd_396 : (Jvm.Cond.code ({ cls := "java/util/Objects", name := "checkIndex", desc := "(II)I" } : Jvm.MethodName) prog_24_method_17_code (2 : Nat) (Option.some Jvm.ClassFile.FieldType.int)) ∈ mm_gt := mm_in_gt 396 (by decide +kernel) rfl
theorem wd_397 : (Jvm.Cond.methodLink "java/util/Objects" (105 : Nat) ({ cls := "jdk/internal/util/Preconditions", name := "checkIndex", desc := "(IILjava/util/function/BiFunction;)I" } : Jvm.MethodName)) ∈ mm_gt := mm_in_gt 397 (by decide +kernel) rfl
theorem wd_398 : (Jvm.Cond.static ({ cls := "jdk/internal/util/Preconditions", name := "checkIndex", desc := "(IILjava/util/function/BiFunction;)I" } : Jvm.MethodName)) ∈ mm_gt := mm_in_gt 398 (by decide +kernel) rfl
theorem wd_399 : (Jvm.Cond.code ({ cls := "jdk/internal/util/Preconditions", name := "checkIndex", desc := "(IILjava/util/function/BiFunction;)I" } : Jvm.MethodName) prog_28_method_11_code (3 : Nat) (Option.some Jvm.ClassFile.FieldType.int)) ∈ mm_gt := mm_in_gt 399 (by decide +kernel) rfl
theorem wd_400 : (Jvm.Cond.methodLink "java/util/ArrayList" (123 : Nat) ({ cls := "java/util/ArrayList", name := "elementData", desc := "(I)Ljava/lang/Object;" } : Jvm.MethodName)) ∈ mm_gt := mm_in_gt 400 (by decide +kernel) rfl
theorem wd_401 : (Jvm.Cond.instanceMethod ({ cls := "java/util/ArrayList", name := "elementData", desc := "(I)Ljava/lang/Object;" } : Jvm.MethodName)) ∈ mm_gt := mm_in_gt 401 (by decide +kernel) rfl
theorem wd_402 : (Jvm.Cond.selects "java/util/ArrayList" ({ cls := "java/util/ArrayList", name := "elementData", desc := "(I)Ljava/lang/Object;" } : Jvm.MethodName) ({ cls := "java/util/ArrayList", name := "elementData", desc := "(I)Ljava/lang/Object;" } : Jvm.MethodName)) ∈ mm_gt := mm_in_gt 402 (by decide +kernel) rfl
theorem wd_403 : (Jvm.Cond.code ({ cls := "java/util/ArrayList", name := "elementData", desc := "(I)Ljava/lang/Object;" } : Jvm.MethodName) prog_20_method_18_code (2 : Nat) (Option.some (Jvm.ClassFile.FieldType.object "java/lang/Object"))) ∈ mm_gt := mm_in_gt 403 (by decide +kernel) rfl
theorem wd_404 : (Jvm.Cond.methodLink "LessonCards" (83 : Nat) ({ cls := "LessonCards$Card", name := "leansOn", desc := "(I)Z" } : Jvm.MethodName)) ∈ mm_gt := mm_in_gt 404 (by decide +kernel) rfl
theorem wd_405 : (Jvm.Cond.instanceMethod ({ cls := "LessonCards$Card", name := "leansOn", desc := "(I)Z" } : Jvm.MethodName)) ∈ mm_gt := mm_in_gt 405 (by decide +kernel) rfl
theorem wd_406 : (Jvm.Cond.selects "LessonCards$Card" ({ cls := "LessonCards$Card", name := "leansOn", desc := "(I)Z" } : Jvm.MethodName) ({ cls := "LessonCards$Card", name := "leansOn", desc := "(I)Z" } : Jvm.MethodName)) ∈ mm_gt := mm_in_gt 406 (by decide +kernel) rfl
theorem wd_407 : (Jvm.Cond.code ({ cls := "LessonCards$Card", name := "leansOn", desc := "(I)Z" } : Jvm.MethodName) prog_2_method_2_code (3 : Nat) (Option.some Jvm.ClassFile.FieldType.boolean)) ∈ mm_gt := mm_in_gt 407 (by decide +kernel) rfl
theorem wd_408 : (Jvm.Cond.methodLink "LessonCards" (89 : Nat) ({ cls := "LessonCards$Deck", name := "leadsTo", desc := "(II)Z" } : Jvm.MethodName)) ∈ mm_gt := mm_in_gt 408 (by decide +kernel) rfl
theorem wd_409 : (Jvm.Cond.instanceMethod ({ cls := "LessonCards$Deck", name := "leadsTo", desc := "(II)Z" } : Jvm.MethodName)) ∈ mm_gt := mm_in_gt 409 (by decide +kernel) rfl
theorem wd_410 : (Jvm.Cond.selects "LessonCards$Deck" ({ cls := "LessonCards$Deck", name := "leadsTo", desc := "(II)Z" } : Jvm.MethodName) ({ cls := "LessonCards$Deck", name := "leadsTo", desc := "(II)Z" } : Jvm.MethodName)) ∈ mm_gt := mm_in_gt 410 (by decide +kernel) rfl
theorem wd_411 : (Jvm.Cond.code ({ cls := "LessonCards$Deck", name := "leadsTo", desc := "(II)Z" } : Jvm.MethodName) prog_4_method_5_code (7 : Nat) (Option.some Jvm.ClassFile.FieldType.boolean)) ∈ mm_gt := mm_in_gt 411 (by decide +kernel) rfl
theorem wd_412 : (Jvm.Cond.methodLink "LessonCards$Deck" (41 : Nat) ({ cls := "LessonCards$Deck", name := "reach", desc := "(II)I" } : Jvm.MethodName)) ∈ mm_gt := mm_in_gt 412 (by decide +kernel) rfl
theorem wd_414 : (Jvm.Cond.instanceMethod ({ cls := "LessonCards$Deck", name := "reach", desc := "(II)I" } : Jvm.MethodName)) ∈ mm_gt := mm_in_gt 414 (by decide +kernel) rfl
theorem wd_415 : (Jvm.Cond.code ({ cls := "LessonCards$Deck", name := "reach", desc := "(II)I" } : Jvm.MethodName) prog_4_method_6_code (3 : Nat) (Option.some Jvm.ClassFile.FieldType.int)) ∈ mm_gt := mm_in_gt 415 (by decide +kernel) rfl
theorem wd_416 : (Jvm.Cond.methodLink "LessonCards$Deck" (45 : Nat) ({ cls := "LessonCards$Deck", name := "cardAt", desc := "(I)LLessonCards$Card;" } : Jvm.MethodName)) ∈ mm_gt := mm_in_gt 416 (by decide +kernel) rfl
theorem wd_417 : (Jvm.Cond.methodLink "LessonCards" (93 : Nat) ({ cls := "LessonCards$Card", name := "addLean", desc := "(I)I" } : Jvm.MethodName)) ∈ mm_gt := mm_in_gt 417 (by decide +kernel) rfl
theorem wd_418 : (Jvm.Cond.instanceMethod ({ cls := "LessonCards$Card", name := "addLean", desc := "(I)I" } : Jvm.MethodName)) ∈ mm_gt := mm_in_gt 418 (by decide +kernel) rfl
theorem wd_419 : (Jvm.Cond.selects "LessonCards$Card" ({ cls := "LessonCards$Card", name := "addLean", desc := "(I)I" } : Jvm.MethodName) ({ cls := "LessonCards$Card", name := "addLean", desc := "(I)I" } : Jvm.MethodName)) ∈ mm_gt := mm_in_gt 419 (by decide +kernel) rfl
theorem wd_420 : (Jvm.Cond.code ({ cls := "LessonCards$Card", name := "addLean", desc := "(I)I" } : Jvm.MethodName) prog_2_method_3_code (2 : Nat) (Option.some Jvm.ClassFile.FieldType.int)) ∈ mm_gt := mm_in_gt 420 (by decide +kernel) rfl
theorem wd_421 : (Jvm.Cond.methodLink "LessonCardsLaw" (23 : Nat) ({ cls := "LessonCards", name := "rule", desc := "(I)I" } : Jvm.MethodName)) ∈ mm_gt := mm_in_gt 421 (by decide +kernel) rfl
theorem wd_422 : (Jvm.Cond.instanceMethod ({ cls := "LessonCards", name := "rule", desc := "(I)I" } : Jvm.MethodName)) ∈ mm_gt := mm_in_gt 422 (by decide +kernel) rfl
theorem wd_423 : (Jvm.Cond.selects "LessonCards" ({ cls := "LessonCards", name := "rule", desc := "(I)I" } : Jvm.MethodName) ({ cls := "LessonCards", name := "rule", desc := "(I)I" } : Jvm.MethodName)) ∈ mm_gt := mm_in_gt 423 (by decide +kernel) rfl
theorem wd_424 : (Jvm.Cond.code ({ cls := "LessonCards", name := "rule", desc := "(I)I" } : Jvm.MethodName) prog_1_method_4_code (3 : Nat) (Option.some Jvm.ClassFile.FieldType.int)) ∈ mm_gt := mm_in_gt 424 (by decide +kernel) rfl
theorem wd_425 : (Jvm.Cond.methodLink "LessonCards" (97 : Nat) ({ cls := "LessonCards", name := "isRule", desc := "(I)Z" } : Jvm.MethodName)) ∈ mm_gt := mm_in_gt 425 (by decide +kernel) rfl
theorem wd_426 : (Jvm.Cond.static ({ cls := "LessonCards", name := "isRule", desc := "(I)Z" } : Jvm.MethodName)) ∈ mm_gt := mm_in_gt 426 (by decide +kernel) rfl
theorem wd_427 : (Jvm.Cond.code ({ cls := "LessonCards", name := "isRule", desc := "(I)Z" } : Jvm.MethodName) prog_1_method_33_code (1 : Nat) (Option.some Jvm.ClassFile.FieldType.boolean)) ∈ mm_gt := mm_in_gt 427 (by decide +kernel) rfl
theorem wd_428 : (Jvm.Cond.methodLink "LessonCardsLaw" (27 : Nat) ({ cls := "LessonCards", name := "table", desc := "(II)I" } : Jvm.MethodName)) ∈ mm_gt := mm_in_gt 428 (by decide +kernel) rfl
theorem wd_429 : (Jvm.Cond.instanceMethod ({ cls := "LessonCards", name := "table", desc := "(II)I" } : Jvm.MethodName)) ∈ mm_gt := mm_in_gt 429 (by decide +kernel) rfl
theorem wd_430 : (Jvm.Cond.selects "LessonCards" ({ cls := "LessonCards", name := "table", desc := "(II)I" } : Jvm.MethodName) ({ cls := "LessonCards", name := "table", desc := "(II)I" } : Jvm.MethodName)) ∈ mm_gt := mm_in_gt 430 (by decide +kernel) rfl
theorem wd_431 : (Jvm.Cond.code ({ cls := "LessonCards", name := "table", desc := "(II)I" } : Jvm.MethodName) prog_1_method_5_code (4 : Nat) (Option.some Jvm.ClassFile.FieldType.int)) ∈ mm_gt := mm_in_gt 431 (by decide +kernel) rfl
theorem wd_432 : (Jvm.Cond.methodLink "LessonCards" (100 : Nat) ({ cls := "LessonCards", name := "isAnswer", desc := "(I)Z" } : Jvm.MethodName)) ∈ mm_gt := mm_in_gt 432 (by decide +kernel) rfl
theorem wd_433 : (Jvm.Cond.static ({ cls := "LessonCards", name := "isAnswer", desc := "(I)Z" } : Jvm.MethodName)) ∈ mm_gt := mm_in_gt 433 (by decide +kernel) rfl
theorem wd_434 : (Jvm.Cond.code ({ cls := "LessonCards", name := "isAnswer", desc := "(I)Z" } : Jvm.MethodName) prog_1_method_34_code (1 : Nat) (Option.some Jvm.ClassFile.FieldType.boolean)) ∈ mm_gt := mm_in_gt 434 (by decide +kernel) rfl
theorem wd_435 : (Jvm.Cond.constant "LessonCards" (103 : Nat) (100000 : Int32)) ∈ mm_gt := mm_in_gt 435 (by decide +kernel) rfl
theorem wd_436 : (Jvm.Cond.methodLink "LessonCardsLaw" (31 : Nat) ({ cls := "LessonCards", name := "most", desc := "(II)I" } : Jvm.MethodName)) ∈ mm_gt := mm_in_gt 436 (by decide +kernel) rfl
theorem wd_437 : (Jvm.Cond.instanceMethod ({ cls := "LessonCards", name := "most", desc := "(II)I" } : Jvm.MethodName)) ∈ mm_gt := mm_in_gt 437 (by decide +kernel) rfl
theorem wd_438 : (Jvm.Cond.selects "LessonCards" ({ cls := "LessonCards", name := "most", desc := "(II)I" } : Jvm.MethodName) ({ cls := "LessonCards", name := "most", desc := "(II)I" } : Jvm.MethodName)) ∈ mm_gt := mm_in_gt 438 (by decide +kernel) rfl
theorem wd_439 : (Jvm.Cond.code ({ cls := "LessonCards", name := "most", desc := "(II)I" } : Jvm.MethodName) prog_1_method_6_code (3 : Nat) (Option.some Jvm.ClassFile.FieldType.int)) ∈ mm_gt := mm_in_gt 439 (by decide +kernel) rfl
theorem wd_440 : (Jvm.Cond.methodLink "LessonCardsLaw" (35 : Nat) ({ cls := "LessonCards", name := "day", desc := "(II)I" } : Jvm.MethodName)) ∈ mm_gt := mm_in_gt 440 (by decide +kernel) rfl
theorem wd_441 : (Jvm.Cond.instanceMethod ({ cls := "LessonCards", name := "day", desc := "(II)I" } : Jvm.MethodName)) ∈ mm_gt := mm_in_gt 441 (by decide +kernel) rfl
theorem wd_442 : (Jvm.Cond.selects "LessonCards" ({ cls := "LessonCards", name := "day", desc := "(II)I" } : Jvm.MethodName) ({ cls := "LessonCards", name := "day", desc := "(II)I" } : Jvm.MethodName)) ∈ mm_gt := mm_in_gt 442 (by decide +kernel) rfl
theorem wd_443 : (Jvm.Cond.code ({ cls := "LessonCards", name := "day", desc := "(II)I" } : Jvm.MethodName) prog_1_method_7_code (4 : Nat) (Option.some Jvm.ClassFile.FieldType.int)) ∈ mm_gt := mm_in_gt 443 (by decide +kernel) rfl
theorem wd_444 : (Jvm.Cond.methodLink "LessonCards" (104 : Nat) ({ cls := "LessonCards", name := "learnerAt", desc := "(I)LLessonCards$Learner;" } : Jvm.MethodName)) ∈ mm_gt := mm_in_gt 444 (by decide +kernel) rfl
theorem wd_446 : (Jvm.Cond.instanceMethod ({ cls := "LessonCards", name := "learnerAt", desc := "(I)LLessonCards$Learner;" } : Jvm.MethodName)) ∈ mm_gt := mm_in_gt 446 (by decide +kernel) rfl
theorem wd_447 : (Jvm.Cond.code ({ cls := "LessonCards", name := "learnerAt", desc := "(I)LLessonCards$Learner;" } : Jvm.MethodName) prog_1_method_36_code (2 : Nat) (Option.some (Jvm.ClassFile.FieldType.object "LessonCards$Learner"))) ∈ mm_gt := mm_in_gt 447 (by decide +kernel) rfl
theorem wd_448 : (Jvm.Cond.methodLink "LessonCards" (111 : Nat) ({ cls := "LessonCards$Learner", name := "beginDay", desc := "(I)V" } : Jvm.MethodName)) ∈ mm_gt := mm_in_gt 448 (by decide +kernel) rfl
theorem wd_449 : (Jvm.Cond.instanceMethod ({ cls := "LessonCards$Learner", name := "beginDay", desc := "(I)V" } : Jvm.MethodName)) ∈ mm_gt := mm_in_gt 449 (by decide +kernel) rfl
theorem wd_450 : (Jvm.Cond.selects "LessonCards$Learner" ({ cls := "LessonCards$Learner", name := "beginDay", desc := "(I)V" } : Jvm.MethodName) ({ cls := "LessonCards$Learner", name := "beginDay", desc := "(I)V" } : Jvm.MethodName)) ∈ mm_gt := mm_in_gt 450 (by decide +kernel) rfl
theorem wd_451 : (Jvm.Cond.code ({ cls := "LessonCards$Learner", name := "beginDay", desc := "(I)V" } : Jvm.MethodName) prog_8_method_6_code (3 : Nat) (Option.none : Option Jvm.ClassFile.FieldType)) ∈ mm_gt := mm_in_gt 451 (by decide +kernel) rfl
theorem wd_452 : (Jvm.Cond.methodLink "LessonCards$Learner" (31 : Nat) ({ cls := "java/util/ArrayList", name := "size", desc := "()I" } : Jvm.MethodName)) ∈ mm_gt := mm_in_gt 452 (by decide +kernel) rfl
theorem wd_453 : (Jvm.Cond.methodLink "LessonCards$Learner" (35 : Nat) ({ cls := "java/util/ArrayList", name := "get", desc := "(I)Ljava/lang/Object;" } : Jvm.MethodName)) ∈ mm_gt := mm_in_gt 453 (by decide +kernel) rfl
theorem wd_454 : (Jvm.Cond.methodLink "LessonCards$Learner" (54 : Nat) ({ cls := "LessonCards$Hand", name := "forgetToday", desc := "()V" } : Jvm.MethodName)) ∈ mm_gt := mm_in_gt 454 (by decide +kernel) rfl
theorem wd_455 : (Jvm.Cond.instanceMethod ({ cls := "LessonCards$Hand", name := "forgetToday", desc := "()V" } : Jvm.MethodName)) ∈ mm_gt := mm_in_gt 455 (by decide +kernel) rfl
theorem wd_456 : (Jvm.Cond.selects "LessonCards$Hand" ({ cls := "LessonCards$Hand", name := "forgetToday", desc := "()V" } : Jvm.MethodName) ({ cls := "LessonCards$Hand", name := "forgetToday", desc := "()V" } : Jvm.MethodName)) ∈ mm_gt := mm_in_gt 456 (by decide +kernel) rfl
theorem wd_457 : (Jvm.Cond.code ({ cls := "LessonCards$Hand", name := "forgetToday", desc := "()V" } : Jvm.MethodName) prog_7_method_5_code (2 : Nat) (Option.none : Option Jvm.ClassFile.FieldType)) ∈ mm_gt := mm_in_gt 457 (by decide +kernel) rfl
theorem wd_458 : (Jvm.Cond.methodLink "LessonCards$Hand" (33 : Nat) ({ cls := "LessonCards$Memory", name := "forgetToday", desc := "()V" } : Jvm.MethodName)) ∈ mm_gt := mm_in_gt 458 (by decide +kernel) rfl
theorem wd_459 : (Jvm.Cond.instanceMethod ({ cls := "LessonCards$Memory", name := "forgetToday", desc := "()V" } : Jvm.MethodName)) ∈ mm_gt := mm_in_gt 459 (by decide +kernel) rfl
theorem wd_460 : (Jvm.Cond.selects "LessonCards$Memory" ({ cls := "LessonCards$Memory", name := "forgetToday", desc := "()V" } : Jvm.MethodName) ({ cls := "LessonCards$Memory", name := "forgetToday", desc := "()V" } : Jvm.MethodName)) ∈ mm_gt := mm_in_gt 460 (by decide +kernel) rfl
theorem wd_461 : (Jvm.Cond.code ({ cls := "LessonCards$Memory", name := "forgetToday", desc := "()V" } : Jvm.MethodName) prog_10_method_5_code (1 : Nat) (Option.none : Option Jvm.ClassFile.FieldType)) ∈ mm_gt := mm_in_gt 461 (by decide +kernel) rfl
theorem wd_462 : (Jvm.Cond.methodLink "LessonCardsLaw" (39 : Nat) ({ cls := "LessonCards", name := "start", desc := "(I)I" } : Jvm.MethodName)) ∈ mm_gt := mm_in_gt 462 (by decide +kernel) rfl
theorem wd_463 : (Jvm.Cond.instanceMethod ({ cls := "LessonCards", name := "start", desc := "(I)I" } : Jvm.MethodName)) ∈ mm_gt := mm_in_gt 463 (by decide +kernel) rfl
theorem wd_464 : (Jvm.Cond.selects "LessonCards" ({ cls := "LessonCards", name := "start", desc := "(I)I" } : Jvm.MethodName) ({ cls := "LessonCards", name := "start", desc := "(I)I" } : Jvm.MethodName)) ∈ mm_gt := mm_in_gt 464 (by decide +kernel) rfl
theorem wd_465 : (Jvm.Cond.code ({ cls := "LessonCards", name := "start", desc := "(I)I" } : Jvm.MethodName) prog_1_method_8_code (3 : Nat) (Option.some Jvm.ClassFile.FieldType.int)) ∈ mm_gt := mm_in_gt 465 (by decide +kernel) rfl
theorem wd_466 : (Jvm.Cond.methodLink "LessonCards" (117 : Nat) ({ cls := "LessonCards$Learner", name := "askDue", desc := "(ILLessonCards$Curve;)V" } : Jvm.MethodName)) ∈ mm_gt := mm_in_gt 466 (by decide +kernel) rfl
theorem wd_467 : (Jvm.Cond.instanceMethod ({ cls := "LessonCards$Learner", name := "askDue", desc := "(ILLessonCards$Curve;)V" } : Jvm.MethodName)) ∈ mm_gt := mm_in_gt 467 (by decide +kernel) rfl
theorem wd_468 : (Jvm.Cond.selects "LessonCards$Learner" ({ cls := "LessonCards$Learner", name := "askDue", desc := "(ILLessonCards$Curve;)V" } : Jvm.MethodName) ({ cls := "LessonCards$Learner", name := "askDue", desc := "(ILLessonCards$Curve;)V" } : Jvm.MethodName)) ∈ mm_gt := mm_in_gt 468 (by decide +kernel) rfl
theorem wd_469 : (Jvm.Cond.code ({ cls := "LessonCards$Learner", name := "askDue", desc := "(ILLessonCards$Curve;)V" } : Jvm.MethodName) prog_8_method_16_code (5 : Nat) (Option.none : Option Jvm.ClassFile.FieldType)) ∈ mm_gt := mm_in_gt 469 (by decide +kernel) rfl
theorem wd_470 : (Jvm.Cond.methodLink "LessonCards$Learner" (78 : Nat) ({ cls := "LessonCards$Hand", name := "mostUrgent", desc := "(ILLessonCards$Curve;)I" } : Jvm.MethodName)) ∈ mm_gt := mm_in_gt 470 (by decide +kernel) rfl
theorem wd_471 : (Jvm.Cond.instanceMethod ({ cls := "LessonCards$Hand", name := "mostUrgent", desc := "(ILLessonCards$Curve;)I" } : Jvm.MethodName)) ∈ mm_gt := mm_in_gt 471 (by decide +kernel) rfl
theorem wd_472 : (Jvm.Cond.selects "LessonCards$Hand" ({ cls := "LessonCards$Hand", name := "mostUrgent", desc := "(ILLessonCards$Curve;)I" } : Jvm.MethodName) ({ cls := "LessonCards$Hand", name := "mostUrgent", desc := "(ILLessonCards$Curve;)I" } : Jvm.MethodName)) ∈ mm_gt := mm_in_gt 472 (by decide +kernel) rfl
theorem wd_473 : (Jvm.Cond.code ({ cls := "LessonCards$Hand", name := "mostUrgent", desc := "(ILLessonCards$Curve;)I" } : Jvm.MethodName) prog_7_method_9_code (8 : Nat) (Option.some Jvm.ClassFile.FieldType.int)) ∈ mm_gt := mm_in_gt 473 (by decide +kernel) rfl
theorem wd_474 : (Jvm.Cond.methodLink "LessonCards$Hand" (48 : Nat) ({ cls := "LessonCards$Memory", name := "isDue", desc := "(ILLessonCards$Curve;)Z" } : Jvm.MethodName)) ∈ mm_gt := mm_in_gt 474 (by decide +kernel) rfl
theorem wd_475 : (Jvm.Cond.instanceMethod ({ cls := "LessonCards$Memory", name := "isDue", desc := "(ILLessonCards$Curve;)Z" } : Jvm.MethodName)) ∈ mm_gt := mm_in_gt 475 (by decide +kernel) rfl
theorem wd_476 : (Jvm.Cond.selects "LessonCards$Memory" ({ cls := "LessonCards$Memory", name := "isDue", desc := "(ILLessonCards$Curve;)Z" } : Jvm.MethodName) ({ cls := "LessonCards$Memory", name := "isDue", desc := "(ILLessonCards$Curve;)Z" } : Jvm.MethodName)) ∈ mm_gt := mm_in_gt 476 (by decide +kernel) rfl
theorem wd_477 : (Jvm.Cond.code ({ cls := "LessonCards$Memory", name := "isDue", desc := "(ILLessonCards$Curve;)Z" } : Jvm.MethodName) prog_10_method_11_code (3 : Nat) (Option.some Jvm.ClassFile.FieldType.boolean)) ∈ mm_gt := mm_in_gt 477 (by decide +kernel) rfl
theorem wd_478 : (Jvm.Cond.methodLink "LessonCards$Memory" (45 : Nat) ({ cls := "LessonCards$Memory", name := "isToCome", desc := "()Z" } : Jvm.MethodName)) ∈ mm_gt := mm_in_gt 478 (by decide +kernel) rfl
theorem wd_479 : (Jvm.Cond.instanceMethod ({ cls := "LessonCards$Memory", name := "isToCome", desc := "()Z" } : Jvm.MethodName)) ∈ mm_gt := mm_in_gt 479 (by decide +kernel) rfl
theorem wd_480 : (Jvm.Cond.selects "LessonCards$Memory" ({ cls := "LessonCards$Memory", name := "isToCome", desc := "()Z" } : Jvm.MethodName) ({ cls := "LessonCards$Memory", name := "isToCome", desc := "()Z" } : Jvm.MethodName)) ∈ mm_gt := mm_in_gt 480 (by decide +kernel) rfl
theorem wd_481 : (Jvm.Cond.code ({ cls := "LessonCards$Memory", name := "isToCome", desc := "()Z" } : Jvm.MethodName) prog_10_method_9_code (1 : Nat) (Option.some Jvm.ClassFile.FieldType.boolean)) ∈ mm_gt := mm_in_gt 481 (by decide +kernel) rfl
theorem wd_482 : (Jvm.Cond.methodLink "LessonCards$Memory" (49 : Nat) ({ cls := "LessonCards$Memory", name := "chanceOn", desc := "(ILLessonCards$Curve;)I" } : Jvm.MethodName)) ∈ mm_gt := mm_in_gt 482 (by decide +kernel) rfl
theorem wd_483 : (Jvm.Cond.instanceMethod ({ cls := "LessonCards$Memory", name := "chanceOn", desc := "(ILLessonCards$Curve;)I" } : Jvm.MethodName)) ∈ mm_gt := mm_in_gt 483 (by decide +kernel) rfl
theorem wd_484 : (Jvm.Cond.selects "LessonCards$Memory" ({ cls := "LessonCards$Memory", name := "chanceOn", desc := "(ILLessonCards$Curve;)I" } : Jvm.MethodName) ({ cls := "LessonCards$Memory", name := "chanceOn", desc := "(ILLessonCards$Curve;)I" } : Jvm.MethodName)) ∈ mm_gt := mm_in_gt 484 (by decide +kernel) rfl
theorem wd_485 : (Jvm.Cond.code ({ cls := "LessonCards$Memory", name := "chanceOn", desc := "(ILLessonCards$Curve;)I" } : Jvm.MethodName) prog_10_method_10_code (3 : Nat) (Option.some Jvm.ClassFile.FieldType.int)) ∈ mm_gt := mm_in_gt 485 (by decide +kernel) rfl
theorem wd_486 : (Jvm.Cond.methodLink "LessonCards$Memory" (39 : Nat) ({ cls := "LessonCards$Curve", name := "chanceAt", desc := "(I)I" } : Jvm.MethodName)) ∈ mm_gt := mm_in_gt 486 (by decide +kernel) rfl
theorem wd_487 : (Jvm.Cond.instanceMethod ({ cls := "LessonCards$Curve", name := "chanceAt", desc := "(I)I" } : Jvm.MethodName)) ∈ mm_gt := mm_in_gt 487 (by decide +kernel) rfl
theorem wd_488 : (Jvm.Cond.selects "LessonCards$Curve" ({ cls := "LessonCards$Curve", name := "chanceAt", desc := "(I)I" } : Jvm.MethodName) ({ cls := "LessonCards$Curve", name := "chanceAt", desc := "(I)I" } : Jvm.MethodName)) ∈ mm_gt := mm_in_gt 488 (by decide +kernel) rfl
theorem wd_489 : (Jvm.Cond.code ({ cls := "LessonCards$Curve", name := "chanceAt", desc := "(I)I" } : Jvm.MethodName) prog_3_method_2_code (2 : Nat) (Option.some Jvm.ClassFile.FieldType.int)) ∈ mm_gt := mm_in_gt 489 (by decide +kernel) rfl
theorem wd_490 : (Jvm.Cond.methodLink "LessonCards$Hand" (51 : Nat) ({ cls := "LessonCards$Memory", name := "chanceOn", desc := "(ILLessonCards$Curve;)I" } : Jvm.MethodName)) ∈ mm_gt := mm_in_gt 490 (by decide +kernel) rfl
theorem wn_491 : (Jvm.Cond.methodLinkNest "LessonCards$Learner" (82 : Nat) ({ cls := "LessonCards", name := "placeOf", desc := "(II)I" } : Jvm.MethodName) "LessonCards") ∈ mm_nt := mm_in_nt 491 (by decide +kernel) rfl
theorem wd_492 : (Jvm.Cond.static ({ cls := "LessonCards", name := "placeOf", desc := "(II)I" } : Jvm.MethodName)) ∈ mm_gt := mm_in_gt 492 (by decide +kernel) rfl
theorem wd_493 : (Jvm.Cond.code ({ cls := "LessonCards", name := "placeOf", desc := "(II)I" } : Jvm.MethodName) prog_1_method_35_code (2 : Nat) (Option.some Jvm.ClassFile.FieldType.int)) ∈ mm_gt := mm_in_gt 493 (by decide +kernel) rfl
theorem wd_494 : (Jvm.Cond.methodLink "LessonCards$Learner" (86 : Nat) ({ cls := "LessonCards$Learner", name := "append", desc := "(I)V" } : Jvm.MethodName)) ∈ mm_gt := mm_in_gt 494 (by decide +kernel) rfl
theorem wd_495 : (Jvm.Cond.instanceMethod ({ cls := "LessonCards$Learner", name := "append", desc := "(I)V" } : Jvm.MethodName)) ∈ mm_gt := mm_in_gt 495 (by decide +kernel) rfl
theorem wd_496 : (Jvm.Cond.selects "LessonCards$Learner" ({ cls := "LessonCards$Learner", name := "append", desc := "(I)V" } : Jvm.MethodName) ({ cls := "LessonCards$Learner", name := "append", desc := "(I)V" } : Jvm.MethodName)) ∈ mm_gt := mm_in_gt 496 (by decide +kernel) rfl
theorem wd_497 : (Jvm.Cond.code ({ cls := "LessonCards$Learner", name := "append", desc := "(I)V" } : Jvm.MethodName) prog_8_method_12_code (2 : Nat) (Option.none : Option Jvm.ClassFile.FieldType)) ∈ mm_gt := mm_in_gt 497 (by decide +kernel) rfl
theorem wd_498 : (Jvm.Cond.methodLink "LessonCards$Learner" (89 : Nat) ({ cls := "LessonCards$Learner", name := "sinkLast", desc := "(LLessonCards$Curve;)V" } : Jvm.MethodName)) ∈ mm_gt := mm_in_gt 498 (by decide +kernel) rfl
theorem wd_500 : (Jvm.Cond.instanceMethod ({ cls := "LessonCards$Learner", name := "sinkLast", desc := "(LLessonCards$Curve;)V" } : Jvm.MethodName)) ∈ mm_gt := mm_in_gt 500 (by decide +kernel) rfl
theorem wd_501 : (Jvm.Cond.code ({ cls := "LessonCards$Learner", name := "sinkLast", desc := "(LLessonCards$Curve;)V" } : Jvm.MethodName) prog_8_method_17_code (4 : Nat) (Option.none : Option Jvm.ClassFile.FieldType)) ∈ mm_gt := mm_in_gt 501 (by decide +kernel) rfl
theorem wd_502 : (Jvm.Cond.methodLink "LessonCards$Learner" (98 : Nat) ({ cls := "LessonCards$Learner", name := "chanceAt", desc := "(ILLessonCards$Curve;)I" } : Jvm.MethodName)) ∈ mm_gt := mm_in_gt 502 (by decide +kernel) rfl
theorem wd_504 : (Jvm.Cond.instanceMethod ({ cls := "LessonCards$Learner", name := "chanceAt", desc := "(ILLessonCards$Curve;)I" } : Jvm.MethodName)) ∈ mm_gt := mm_in_gt 504 (by decide +kernel) rfl
theorem wd_505 : (Jvm.Cond.code ({ cls := "LessonCards$Learner", name := "chanceAt", desc := "(ILLessonCards$Curve;)I" } : Jvm.MethodName) prog_8_method_18_code (4 : Nat) (Option.some Jvm.ClassFile.FieldType.int)) ∈ mm_gt := mm_in_gt 505 (by decide +kernel) rfl
theorem wd_506 : (Jvm.Cond.methodLink "LessonCards$Learner" (101 : Nat) ({ cls := "LessonCards$Learner", name := "memoryAt", desc := "(I)LLessonCards$Memory;" } : Jvm.MethodName)) ∈ mm_gt := mm_in_gt 506 (by decide +kernel) rfl
theorem wd_507 : (Jvm.Cond.instanceMethod ({ cls := "LessonCards$Learner", name := "memoryAt", desc := "(I)LLessonCards$Memory;" } : Jvm.MethodName)) ∈ mm_gt := mm_in_gt 507 (by decide +kernel) rfl
theorem wd_508 : (Jvm.Cond.selects "LessonCards$Learner" ({ cls := "LessonCards$Learner", name := "memoryAt", desc := "(I)LLessonCards$Memory;" } : Jvm.MethodName) ({ cls := "LessonCards$Learner", name := "memoryAt", desc := "(I)LLessonCards$Memory;" } : Jvm.MethodName)) ∈ mm_gt := mm_in_gt 508 (by decide +kernel) rfl
theorem wd_509 : (Jvm.Cond.code ({ cls := "LessonCards$Learner", name := "memoryAt", desc := "(I)LLessonCards$Memory;" } : Jvm.MethodName) prog_8_method_5_code (3 : Nat) (Option.some (Jvm.ClassFile.FieldType.object "LessonCards$Memory"))) ∈ mm_gt := mm_in_gt 509 (by decide +kernel) rfl
theorem wd_510 : (Jvm.Cond.methodLink "LessonCards$Learner" (39 : Nat) ({ cls := "LessonCards$Learner", name := "handAt", desc := "(I)LLessonCards$Hand;" } : Jvm.MethodName)) ∈ mm_gt := mm_in_gt 510 (by decide +kernel) rfl
theorem wd_511 : (Jvm.Cond.instanceMethod ({ cls := "LessonCards$Learner", name := "handAt", desc := "(I)LLessonCards$Hand;" } : Jvm.MethodName)) ∈ mm_gt := mm_in_gt 511 (by decide +kernel) rfl
theorem wd_512 : (Jvm.Cond.selects "LessonCards$Learner" ({ cls := "LessonCards$Learner", name := "handAt", desc := "(I)LLessonCards$Hand;" } : Jvm.MethodName) ({ cls := "LessonCards$Learner", name := "handAt", desc := "(I)LLessonCards$Hand;" } : Jvm.MethodName)) ∈ mm_gt := mm_in_gt 512 (by decide +kernel) rfl
theorem wd_513 : (Jvm.Cond.code ({ cls := "LessonCards$Learner", name := "handAt", desc := "(I)LLessonCards$Hand;" } : Jvm.MethodName) prog_8_method_3_code (2 : Nat) (Option.some (Jvm.ClassFile.FieldType.object "LessonCards$Hand"))) ∈ mm_gt := mm_in_gt 513 (by decide +kernel) rfl
theorem wd_514 : (Jvm.Cond.methodLink "LessonCards$Learner" (43 : Nat) ({ cls := "LessonCards$Hand", name := "memoryAt", desc := "(I)LLessonCards$Memory;" } : Jvm.MethodName)) ∈ mm_gt := mm_in_gt 514 (by decide +kernel) rfl
theorem wd_515 : (Jvm.Cond.instanceMethod ({ cls := "LessonCards$Hand", name := "memoryAt", desc := "(I)LLessonCards$Memory;" } : Jvm.MethodName)) ∈ mm_gt := mm_in_gt 515 (by decide +kernel) rfl
theorem wd_516 : (Jvm.Cond.selects "LessonCards$Hand" ({ cls := "LessonCards$Hand", name := "memoryAt", desc := "(I)LLessonCards$Memory;" } : Jvm.MethodName) ({ cls := "LessonCards$Hand", name := "memoryAt", desc := "(I)LLessonCards$Memory;" } : Jvm.MethodName)) ∈ mm_gt := mm_in_gt 516 (by decide +kernel) rfl
theorem wd_517 : (Jvm.Cond.code ({ cls := "LessonCards$Hand", name := "memoryAt", desc := "(I)LLessonCards$Memory;" } : Jvm.MethodName) prog_7_method_2_code (2 : Nat) (Option.some (Jvm.ClassFile.FieldType.object "LessonCards$Memory"))) ∈ mm_gt := mm_in_gt 517 (by decide +kernel) rfl
theorem wd_518 : (Jvm.Cond.methodLink "LessonCards$Learner" (102 : Nat) ({ cls := "LessonCards$Memory", name := "chanceOn", desc := "(ILLessonCards$Curve;)I" } : Jvm.MethodName)) ∈ mm_gt := mm_in_gt 518 (by decide +kernel) rfl
theorem wd_519 : (Jvm.Cond.methodLink "LessonCards$Learner" (93 : Nat) ({ cls := "java/lang/Math", name := "min", desc := "(II)I" } : Jvm.MethodName)) ∈ mm_gt := mm_in_gt 519 (by decide +kernel) rfl
theorem wd_520 : (Jvm.Cond.methodLink "LessonCards" (121 : Nat) ({ cls := "LessonCards$Learner", name := "askFresh", desc := "(ILLessonCards$Deck;LLessonCards$Curve;)V" } : Jvm.MethodName)) ∈ mm_gt := mm_in_gt 520 (by decide +kernel) rfl
theorem wd_521 : (Jvm.Cond.instanceMethod ({ cls := "LessonCards$Learner", name := "askFresh", desc := "(ILLessonCards$Deck;LLessonCards$Curve;)V" } : Jvm.MethodName)) ∈ mm_gt := mm_in_gt 521 (by decide +kernel) rfl
theorem wd_522 : (Jvm.Cond.selects "LessonCards$Learner" ({ cls := "LessonCards$Learner", name := "askFresh", desc := "(ILLessonCards$Deck;LLessonCards$Curve;)V" } : Jvm.MethodName) ({ cls := "LessonCards$Learner", name := "askFresh", desc := "(ILLessonCards$Deck;LLessonCards$Curve;)V" } : Jvm.MethodName)) ∈ mm_gt := mm_in_gt 522 (by decide +kernel) rfl
theorem wd_523 : (Jvm.Cond.code ({ cls := "LessonCards$Learner", name := "askFresh", desc := "(ILLessonCards$Deck;LLessonCards$Curve;)V" } : Jvm.MethodName) prog_8_method_19_code (7 : Nat) (Option.none : Option Jvm.ClassFile.FieldType)) ∈ mm_gt := mm_in_gt 523 (by decide +kernel) rfl
theorem wd_524 : (Jvm.Cond.methodLink "LessonCards$Learner" (107 : Nat) ({ cls := "LessonCards$Hand", name := "firstFresh", desc := "()I" } : Jvm.MethodName)) ∈ mm_gt := mm_in_gt 524 (by decide +kernel) rfl
theorem wd_525 : (Jvm.Cond.instanceMethod ({ cls := "LessonCards$Hand", name := "firstFresh", desc := "()I" } : Jvm.MethodName)) ∈ mm_gt := mm_in_gt 525 (by decide +kernel) rfl
theorem wd_526 : (Jvm.Cond.selects "LessonCards$Hand" ({ cls := "LessonCards$Hand", name := "firstFresh", desc := "()I" } : Jvm.MethodName) ({ cls := "LessonCards$Hand", name := "firstFresh", desc := "()I" } : Jvm.MethodName)) ∈ mm_gt := mm_in_gt 526 (by decide +kernel) rfl
theorem wd_527 : (Jvm.Cond.code ({ cls := "LessonCards$Hand", name := "firstFresh", desc := "()I" } : Jvm.MethodName) prog_7_method_10_code (2 : Nat) (Option.some Jvm.ClassFile.FieldType.int)) ∈ mm_gt := mm_in_gt 527 (by decide +kernel) rfl
theorem wd_528 : (Jvm.Cond.methodLink "LessonCards$Hand" (55 : Nat) ({ cls := "LessonCards$Memory", name := "isFresh", desc := "()Z" } : Jvm.MethodName)) ∈ mm_gt := mm_in_gt 528 (by decide +kernel) rfl
theorem wd_529 : (Jvm.Cond.instanceMethod ({ cls := "LessonCards$Memory", name := "isFresh", desc := "()Z" } : Jvm.MethodName)) ∈ mm_gt := mm_in_gt 529 (by decide +kernel) rfl
theorem wd_530 : (Jvm.Cond.selects "LessonCards$Memory" ({ cls := "LessonCards$Memory", name := "isFresh", desc := "()Z" } : Jvm.MethodName) ({ cls := "LessonCards$Memory", name := "isFresh", desc := "()Z" } : Jvm.MethodName)) ∈ mm_gt := mm_in_gt 530 (by decide +kernel) rfl
theorem wd_531 : (Jvm.Cond.code ({ cls := "LessonCards$Memory", name := "isFresh", desc := "()Z" } : Jvm.MethodName) prog_10_method_7_code (1 : Nat) (Option.some Jvm.ClassFile.FieldType.boolean)) ∈ mm_gt := mm_in_gt 531 (by decide +kernel) rfl
theorem wd_532 : (Jvm.Cond.methodLink "LessonCards$Learner" (110 : Nat) ({ cls := "LessonCards$Learner", name := "hasCard", desc := "(I)Z" } : Jvm.MethodName)) ∈ mm_gt := mm_in_gt 532 (by decide +kernel) rfl
theorem wd_534 : (Jvm.Cond.instanceMethod ({ cls := "LessonCards$Learner", name := "hasCard", desc := "(I)Z" } : Jvm.MethodName)) ∈ mm_gt := mm_in_gt 534 (by decide +kernel) rfl
theorem wd_535 : (Jvm.Cond.code ({ cls := "LessonCards$Learner", name := "hasCard", desc := "(I)Z" } : Jvm.MethodName) prog_8_method_15_code (3 : Nat) (Option.some Jvm.ClassFile.FieldType.boolean)) ∈ mm_gt := mm_in_gt 535 (by decide +kernel) rfl
theorem wd_536 : (Jvm.Cond.methodLink "LessonCards$Learner" (114 : Nat) ({ cls := "LessonCards$Deck", name := "cardAt", desc := "(I)LLessonCards$Card;" } : Jvm.MethodName)) ∈ mm_gt := mm_in_gt 536 (by decide +kernel) rfl
theorem wd_537 : (Jvm.Cond.methodLink "LessonCards$Learner" (120 : Nat) ({ cls := "LessonCards$Learner", name := "isReady", desc := "(LLessonCards$Card;LLessonCards$Curve;)Z" } : Jvm.MethodName)) ∈ mm_gt := mm_in_gt 537 (by decide +kernel) rfl
theorem wd_539 : (Jvm.Cond.instanceMethod ({ cls := "LessonCards$Learner", name := "isReady", desc := "(LLessonCards$Card;LLessonCards$Curve;)Z" } : Jvm.MethodName)) ∈ mm_gt := mm_in_gt 539 (by decide +kernel) rfl
theorem wd_540 : (Jvm.Cond.code ({ cls := "LessonCards$Learner", name := "isReady", desc := "(LLessonCards$Card;LLessonCards$Curve;)Z" } : Jvm.MethodName) prog_8_method_20_code (5 : Nat) (Option.some Jvm.ClassFile.FieldType.boolean)) ∈ mm_gt := mm_in_gt 540 (by decide +kernel) rfl
theorem wd_541 : (Jvm.Cond.methodLink "LessonCards$Learner" (64 : Nat) ({ cls := "LessonCards$Hand", name := "isKnown", desc := "(ILLessonCards$Curve;)Z" } : Jvm.MethodName)) ∈ mm_gt := mm_in_gt 541 (by decide +kernel) rfl
theorem wd_542 : (Jvm.Cond.instanceMethod ({ cls := "LessonCards$Hand", name := "isKnown", desc := "(ILLessonCards$Curve;)Z" } : Jvm.MethodName)) ∈ mm_gt := mm_in_gt 542 (by decide +kernel) rfl
theorem wd_543 : (Jvm.Cond.selects "LessonCards$Hand" ({ cls := "LessonCards$Hand", name := "isKnown", desc := "(ILLessonCards$Curve;)Z" } : Jvm.MethodName) ({ cls := "LessonCards$Hand", name := "isKnown", desc := "(ILLessonCards$Curve;)Z" } : Jvm.MethodName)) ∈ mm_gt := mm_in_gt 543 (by decide +kernel) rfl
theorem wd_544 : (Jvm.Cond.code ({ cls := "LessonCards$Hand", name := "isKnown", desc := "(ILLessonCards$Curve;)Z" } : Jvm.MethodName) prog_7_method_7_code (4 : Nat) (Option.some Jvm.ClassFile.FieldType.boolean)) ∈ mm_gt := mm_in_gt 544 (by decide +kernel) rfl
theorem wd_545 : (Jvm.Cond.methodLink "LessonCards$Hand" (40 : Nat) ({ cls := "LessonCards$Memory", name := "isKnown", desc := "(ILLessonCards$Curve;)Z" } : Jvm.MethodName)) ∈ mm_gt := mm_in_gt 545 (by decide +kernel) rfl
theorem wd_546 : (Jvm.Cond.instanceMethod ({ cls := "LessonCards$Memory", name := "isKnown", desc := "(ILLessonCards$Curve;)Z" } : Jvm.MethodName)) ∈ mm_gt := mm_in_gt 546 (by decide +kernel) rfl
theorem wd_547 : (Jvm.Cond.selects "LessonCards$Memory" ({ cls := "LessonCards$Memory", name := "isKnown", desc := "(ILLessonCards$Curve;)Z" } : Jvm.MethodName) ({ cls := "LessonCards$Memory", name := "isKnown", desc := "(ILLessonCards$Curve;)Z" } : Jvm.MethodName)) ∈ mm_gt := mm_in_gt 547 (by decide +kernel) rfl
theorem wd_548 : (Jvm.Cond.code ({ cls := "LessonCards$Memory", name := "isKnown", desc := "(ILLessonCards$Curve;)Z" } : Jvm.MethodName) prog_10_method_12_code (3 : Nat) (Option.some Jvm.ClassFile.FieldType.boolean)) ∈ mm_gt := mm_in_gt 548 (by decide +kernel) rfl
theorem wd_549 : (Jvm.Cond.methodLink "LessonCardsLaw" (43 : Nat) ({ cls := "LessonCards", name := "next", desc := "(I)I" } : Jvm.MethodName)) ∈ mm_gt := mm_in_gt 549 (by decide +kernel) rfl
theorem wd_550 : (Jvm.Cond.instanceMethod ({ cls := "LessonCards", name := "next", desc := "(I)I" } : Jvm.MethodName)) ∈ mm_gt := mm_in_gt 550 (by decide +kernel) rfl
theorem wd_551 : (Jvm.Cond.selects "LessonCards" ({ cls := "LessonCards", name := "next", desc := "(I)I" } : Jvm.MethodName) ({ cls := "LessonCards", name := "next", desc := "(I)I" } : Jvm.MethodName)) ∈ mm_gt := mm_in_gt 551 (by decide +kernel) rfl
theorem wd_552 : (Jvm.Cond.code ({ cls := "LessonCards", name := "next", desc := "(I)I" } : Jvm.MethodName) prog_1_method_9_code (3 : Nat) (Option.some Jvm.ClassFile.FieldType.int)) ∈ mm_gt := mm_in_gt 552 (by decide +kernel) rfl
theorem wd_553 : (Jvm.Cond.methodLink "LessonCards" (125 : Nat) ({ cls := "LessonCards$Learner", name := "first", desc := "()I" } : Jvm.MethodName)) ∈ mm_gt := mm_in_gt 553 (by decide +kernel) rfl
theorem wd_554 : (Jvm.Cond.instanceMethod ({ cls := "LessonCards$Learner", name := "first", desc := "()I" } : Jvm.MethodName)) ∈ mm_gt := mm_in_gt 554 (by decide +kernel) rfl
theorem wd_555 : (Jvm.Cond.selects "LessonCards$Learner" ({ cls := "LessonCards$Learner", name := "first", desc := "()I" } : Jvm.MethodName) ({ cls := "LessonCards$Learner", name := "first", desc := "()I" } : Jvm.MethodName)) ∈ mm_gt := mm_in_gt 555 (by decide +kernel) rfl
theorem wd_556 : (Jvm.Cond.code ({ cls := "LessonCards$Learner", name := "first", desc := "()I" } : Jvm.MethodName) prog_8_method_11_code (1 : Nat) (Option.some Jvm.ClassFile.FieldType.int)) ∈ mm_gt := mm_in_gt 556 (by decide +kernel) rfl
theorem wd_557 : (Jvm.Cond.methodLink "LessonCardsLaw" (47 : Nat) ({ cls := "LessonCards", name := "answer", desc := "(II)I" } : Jvm.MethodName)) ∈ mm_gt := mm_in_gt 557 (by decide +kernel) rfl
theorem wd_558 : (Jvm.Cond.instanceMethod ({ cls := "LessonCards", name := "answer", desc := "(II)I" } : Jvm.MethodName)) ∈ mm_gt := mm_in_gt 558 (by decide +kernel) rfl
theorem wd_559 : (Jvm.Cond.selects "LessonCards" ({ cls := "LessonCards", name := "answer", desc := "(II)I" } : Jvm.MethodName) ({ cls := "LessonCards", name := "answer", desc := "(II)I" } : Jvm.MethodName)) ∈ mm_gt := mm_in_gt 559 (by decide +kernel) rfl
theorem wd_560 : (Jvm.Cond.code ({ cls := "LessonCards", name := "answer", desc := "(II)I" } : Jvm.MethodName) prog_1_method_10_code (7 : Nat) (Option.some Jvm.ClassFile.FieldType.int)) ∈ mm_gt := mm_in_gt 560 (by decide +kernel) rfl
theorem wd_561 : (Jvm.Cond.methodLink "LessonCards" (128 : Nat) ({ cls := "java/util/ArrayList", name := "size", desc := "()I" } : Jvm.MethodName)) ∈ mm_gt := mm_in_gt 561 (by decide +kernel) rfl
theorem wd_562 : (Jvm.Cond.methodLink "LessonCards" (129 : Nat) ({ cls := "LessonCards$Learner", name := "memoryAt", desc := "(I)LLessonCards$Memory;" } : Jvm.MethodName)) ∈ mm_gt := mm_in_gt 562 (by decide +kernel) rfl
theorem wd_563 : (Jvm.Cond.methodLink "LessonCards" (133 : Nat) ({ cls := "LessonCards$Learner", name := "dropFirst", desc := "()V" } : Jvm.MethodName)) ∈ mm_gt := mm_in_gt 563 (by decide +kernel) rfl
theorem wd_564 : (Jvm.Cond.instanceMethod ({ cls := "LessonCards$Learner", name := "dropFirst", desc := "()V" } : Jvm.MethodName)) ∈ mm_gt := mm_in_gt 564 (by decide +kernel) rfl
theorem wd_565 : (Jvm.Cond.selects "LessonCards$Learner" ({ cls := "LessonCards$Learner", name := "dropFirst", desc := "()V" } : Jvm.MethodName) ({ cls := "LessonCards$Learner", name := "dropFirst", desc := "()V" } : Jvm.MethodName)) ∈ mm_gt := mm_in_gt 565 (by decide +kernel) rfl
theorem wd_566 : (Jvm.Cond.code ({ cls := "LessonCards$Learner", name := "dropFirst", desc := "()V" } : Jvm.MethodName) prog_8_method_13_code (1 : Nat) (Option.none : Option Jvm.ClassFile.FieldType)) ∈ mm_gt := mm_in_gt 566 (by decide +kernel) rfl
theorem wd_567 : (Jvm.Cond.methodLink "LessonCards$Learner" (72 : Nat) ({ cls := "LessonCards$Learner", name := "first", desc := "()I" } : Jvm.MethodName)) ∈ mm_gt := mm_in_gt 567 (by decide +kernel) rfl
theorem wd_568 : (Jvm.Cond.methodLink "LessonCards$Learner" (75 : Nat) ({ cls := "LessonCards$Learner", name := "drop", desc := "(I)V" } : Jvm.MethodName)) ∈ mm_gt := mm_in_gt 568 (by decide +kernel) rfl
theorem wd_569 : (Jvm.Cond.instanceMethod ({ cls := "LessonCards$Learner", name := "drop", desc := "(I)V" } : Jvm.MethodName)) ∈ mm_gt := mm_in_gt 569 (by decide +kernel) rfl
theorem wd_570 : (Jvm.Cond.selects "LessonCards$Learner" ({ cls := "LessonCards$Learner", name := "drop", desc := "(I)V" } : Jvm.MethodName) ({ cls := "LessonCards$Learner", name := "drop", desc := "(I)V" } : Jvm.MethodName)) ∈ mm_gt := mm_in_gt 570 (by decide +kernel) rfl
theorem wd_571 : (Jvm.Cond.code ({ cls := "LessonCards$Learner", name := "drop", desc := "(I)V" } : Jvm.MethodName) prog_8_method_14_code (4 : Nat) (Option.none : Option Jvm.ClassFile.FieldType)) ∈ mm_gt := mm_in_gt 571 (by decide +kernel) rfl
theorem wd_572 : (Jvm.Cond.classLink "LessonCards" (136 : Nat) "LessonCards$Entry") ∈ mm_gt := mm_in_gt 572 (by decide +kernel) rfl
theorem wd_573 : (Jvm.Cond.instantiable "LessonCards$Entry" (7 : Nat)) ∈ mm_gt := mm_in_gt 573 (by decide +kernel) rfl
theorem wd_574 : (Jvm.Cond.methodLink "LessonCards" (138 : Nat) ({ cls := "LessonCards$Memory", name := "copy", desc := "()LLessonCards$Memory;" } : Jvm.MethodName)) ∈ mm_gt := mm_in_gt 574 (by decide +kernel) rfl
theorem wd_575 : (Jvm.Cond.instanceMethod ({ cls := "LessonCards$Memory", name := "copy", desc := "()LLessonCards$Memory;" } : Jvm.MethodName)) ∈ mm_gt := mm_in_gt 575 (by decide +kernel) rfl
theorem wd_576 : (Jvm.Cond.selects "LessonCards$Memory" ({ cls := "LessonCards$Memory", name := "copy", desc := "()LLessonCards$Memory;" } : Jvm.MethodName) ({ cls := "LessonCards$Memory", name := "copy", desc := "()LLessonCards$Memory;" } : Jvm.MethodName)) ∈ mm_gt := mm_in_gt 576 (by decide +kernel) rfl
theorem wd_577 : (Jvm.Cond.code ({ cls := "LessonCards$Memory", name := "copy", desc := "()LLessonCards$Memory;" } : Jvm.MethodName) prog_10_method_2_code (2 : Nat) (Option.some (Jvm.ClassFile.FieldType.object "LessonCards$Memory"))) ∈ mm_gt := mm_in_gt 577 (by decide +kernel) rfl
theorem wd_578 : (Jvm.Cond.classLink "LessonCards$Memory" (10 : Nat) "LessonCards$Memory") ∈ mm_gt := mm_in_gt 578 (by decide +kernel) rfl
theorem wd_579 : (Jvm.Cond.methodLink "LessonCards$Memory" (18 : Nat) ({ cls := "LessonCards$Memory", name := "<init>", desc := "()V" } : Jvm.MethodName)) ∈ mm_gt := mm_in_gt 579 (by decide +kernel) rfl
theorem wd_580 : (Jvm.Cond.methodLink "LessonCards$Memory" (19 : Nat) ({ cls := "LessonCards$Memory", name := "become", desc := "(LLessonCards$Memory;)V" } : Jvm.MethodName)) ∈ mm_gt := mm_in_gt 580 (by decide +kernel) rfl
theorem wd_581 : (Jvm.Cond.instanceMethod ({ cls := "LessonCards$Memory", name := "become", desc := "(LLessonCards$Memory;)V" } : Jvm.MethodName)) ∈ mm_gt := mm_in_gt 581 (by decide +kernel) rfl
theorem wd_582 : (Jvm.Cond.selects "LessonCards$Memory" ({ cls := "LessonCards$Memory", name := "become", desc := "(LLessonCards$Memory;)V" } : Jvm.MethodName) ({ cls := "LessonCards$Memory", name := "become", desc := "(LLessonCards$Memory;)V" } : Jvm.MethodName)) ∈ mm_gt := mm_in_gt 582 (by decide +kernel) rfl
theorem wd_583 : (Jvm.Cond.code ({ cls := "LessonCards$Memory", name := "become", desc := "(LLessonCards$Memory;)V" } : Jvm.MethodName) prog_10_method_3_code (2 : Nat) (Option.none : Option Jvm.ClassFile.FieldType)) ∈ mm_gt := mm_in_gt 583 (by decide +kernel) rfl
theorem wd_584 : (Jvm.Cond.methodLink "LessonCards" (144 : Nat) ({ cls := "LessonCards$Entry", name := "<init>", desc := "(IIIIIILLessonCards$Memory;)V" } : Jvm.MethodName)) ∈ mm_gt := mm_in_gt 584 (by decide +kernel) rfl
theorem wd_585 : (Jvm.Cond.instanceMethod ({ cls := "LessonCards$Entry", name := "<init>", desc := "(IIIIIILLessonCards$Memory;)V" } : Jvm.MethodName)) ∈ mm_gt := mm_in_gt 585 (by decide +kernel) rfl
theorem wd_586 : (Jvm.Cond.code ({ cls := "LessonCards$Entry", name := "<init>", desc := "(IIIIIILLessonCards$Memory;)V" } : Jvm.MethodName) prog_5_method_1_code (8 : Nat) (Option.none : Option Jvm.ClassFile.FieldType)) ∈ mm_gt := mm_in_gt 586 (by decide +kernel) rfl
theorem wd_587 : (Jvm.Cond.methodLink "LessonCards$Entry" (3 : Nat) ({ cls := "java/lang/Object", name := "<init>", desc := "()V" } : Jvm.MethodName)) ∈ mm_gt := mm_in_gt 587 (by decide +kernel) rfl
theorem wd_588 : (Jvm.Cond.fieldLink "LessonCards$Entry" (9 : Nat) "LessonCards$Entry" "pupil" "I") ∈ mm_gt := mm_in_gt 588 (by decide +kernel) rfl
theorem wn_589 : (Jvm.Cond.fieldLinkNest "LessonCards" (184 : Nat) "LessonCards$Entry" "pupil" "I" "LessonCards") ∈ mm_nt := mm_in_nt 589 (by decide +kernel) rfl
theorem wd_590 : (Jvm.Cond.fieldLink "LessonCards$Entry" (15 : Nat) "LessonCards$Entry" "place" "I") ∈ mm_gt := mm_in_gt 590 (by decide +kernel) rfl
theorem wn_591 : (Jvm.Cond.fieldLinkNest "LessonCards" (187 : Nat) "LessonCards$Entry" "place" "I" "LessonCards") ∈ mm_nt := mm_in_nt 591 (by decide +kernel) rfl
theorem wd_592 : (Jvm.Cond.fieldLink "LessonCards$Entry" (18 : Nat) "LessonCards$Entry" "day" "I") ∈ mm_gt := mm_in_gt 592 (by decide +kernel) rfl
theorem wn_593 : (Jvm.Cond.fieldLinkNest "LessonCards" (309 : Nat) "LessonCards$Entry" "day" "I" "LessonCards") ∈ mm_nt := mm_in_nt 593 (by decide +kernel) rfl
theorem wd_594 : (Jvm.Cond.fieldLink "LessonCards$Entry" (21 : Nat) "LessonCards$Entry" "answer" "I") ∈ mm_gt := mm_in_gt 594 (by decide +kernel) rfl
theorem wn_595 : (Jvm.Cond.fieldLinkNest "LessonCards" (312 : Nat) "LessonCards$Entry" "answer" "I" "LessonCards") ∈ mm_nt := mm_in_nt 595 (by decide +kernel) rfl
theorem wd_596 : (Jvm.Cond.fieldLink "LessonCards$Entry" (24 : Nat) "LessonCards$Entry" "rule" "I") ∈ mm_gt := mm_in_gt 596 (by decide +kernel) rfl
theorem wn_597 : (Jvm.Cond.fieldLinkNest "LessonCards" (319 : Nat) "LessonCards$Entry" "rule" "I" "LessonCards") ∈ mm_nt := mm_in_nt 597 (by decide +kernel) rfl
theorem wd_598 : (Jvm.Cond.fieldLink "LessonCards$Entry" (27 : Nat) "LessonCards$Entry" "number" "I") ∈ mm_gt := mm_in_gt 598 (by decide +kernel) rfl
theorem wn_599 : (Jvm.Cond.fieldLinkNest "LessonCards" (322 : Nat) "LessonCards$Entry" "number" "I" "LessonCards") ∈ mm_nt := mm_in_nt 599 (by decide +kernel) rfl
theorem wd_600 : (Jvm.Cond.fieldLink "LessonCards$Entry" (30 : Nat) "LessonCards$Entry" "before" "LLessonCards$Memory;") ∈ mm_gt := mm_in_gt 600 (by decide +kernel) rfl
theorem wn_601 : (Jvm.Cond.fieldLinkNest "LessonCards" (190 : Nat) "LessonCards$Entry" "before" "LLessonCards$Memory;" "LessonCards") ∈ mm_nt := mm_in_nt 601 (by decide +kernel) rfl
theorem wd_617 : (Jvm.Cond.methodLink "LessonCards" (147 : Nat) ({ cls := "java/util/ArrayList", name := "add", desc := "(Ljava/lang/Object;)Z" } : Jvm.MethodName)) ∈ mm_gt := mm_in_gt 617 (by decide +kernel) rfl
theorem wd_618 : (Jvm.Cond.methodLink "LessonCards" (151 : Nat) ({ cls := "LessonCards$Memory", name := "move", desc := "(IIIILLessonCards$Curve;)V" } : Jvm.MethodName)) ∈ mm_gt := mm_in_gt 618 (by decide +kernel) rfl
theorem wd_619 : (Jvm.Cond.instanceMethod ({ cls := "LessonCards$Memory", name := "move", desc := "(IIIILLessonCards$Curve;)V" } : Jvm.MethodName)) ∈ mm_gt := mm_in_gt 619 (by decide +kernel) rfl
theorem wd_620 : (Jvm.Cond.selects "LessonCards$Memory" ({ cls := "LessonCards$Memory", name := "move", desc := "(IIIILLessonCards$Curve;)V" } : Jvm.MethodName) ({ cls := "LessonCards$Memory", name := "move", desc := "(IIIILLessonCards$Curve;)V" } : Jvm.MethodName)) ∈ mm_gt := mm_in_gt 620 (by decide +kernel) rfl
theorem wd_621 : (Jvm.Cond.code ({ cls := "LessonCards$Memory", name := "move", desc := "(IIIILLessonCards$Curve;)V" } : Jvm.MethodName) prog_10_method_18_code (6 : Nat) (Option.none : Option Jvm.ClassFile.FieldType)) ∈ mm_gt := mm_in_gt 621 (by decide +kernel) rfl
theorem wd_622 : (Jvm.Cond.methodLink "LessonCards$Memory" (75 : Nat) ({ cls := "LessonCards$Memory", name := "moveByBoxes", desc := "(I)V" } : Jvm.MethodName)) ∈ mm_gt := mm_in_gt 622 (by decide +kernel) rfl
theorem wd_624 : (Jvm.Cond.instanceMethod ({ cls := "LessonCards$Memory", name := "moveByBoxes", desc := "(I)V" } : Jvm.MethodName)) ∈ mm_gt := mm_in_gt 624 (by decide +kernel) rfl
theorem wd_625 : (Jvm.Cond.code ({ cls := "LessonCards$Memory", name := "moveByBoxes", desc := "(I)V" } : Jvm.MethodName) prog_10_method_19_code (2 : Nat) (Option.none : Option Jvm.ClassFile.FieldType)) ∈ mm_gt := mm_in_gt 625 (by decide +kernel) rfl
theorem wd_626 : (Jvm.Cond.methodLink "LessonCards$Memory" (92 : Nat) ({ cls := "java/lang/Math", name := "min", desc := "(II)I" } : Jvm.MethodName)) ∈ mm_gt := mm_in_gt 626 (by decide +kernel) rfl
theorem wd_627 : (Jvm.Cond.methodLink "LessonCards$Memory" (57 : Nat) ({ cls := "LessonCards$Memory", name := "isFresh", desc := "()Z" } : Jvm.MethodName)) ∈ mm_gt := mm_in_gt 627 (by decide +kernel) rfl
theorem wd_628 : (Jvm.Cond.methodLink "LessonCards$Memory" (79 : Nat) ({ cls := "LessonCards$Memory", name := "firstStrength", desc := "(I)I" } : Jvm.MethodName)) ∈ mm_gt := mm_in_gt 628 (by decide +kernel) rfl
theorem wd_629 : (Jvm.Cond.static ({ cls := "LessonCards$Memory", name := "firstStrength", desc := "(I)I" } : Jvm.MethodName)) ∈ mm_gt := mm_in_gt 629 (by decide +kernel) rfl
theorem wd_630 : (Jvm.Cond.code ({ cls := "LessonCards$Memory", name := "firstStrength", desc := "(I)I" } : Jvm.MethodName) prog_10_method_21_code (1 : Nat) (Option.some Jvm.ClassFile.FieldType.int)) ∈ mm_gt := mm_in_gt 630 (by decide +kernel) rfl
theorem wd_631 : (Jvm.Cond.methodLink "LessonCards$Memory" (82 : Nat) ({ cls := "LessonCards$Memory", name := "moveByStrengths", desc := "(II)V" } : Jvm.MethodName)) ∈ mm_gt := mm_in_gt 631 (by decide +kernel) rfl
theorem wd_633 : (Jvm.Cond.instanceMethod ({ cls := "LessonCards$Memory", name := "moveByStrengths", desc := "(II)V" } : Jvm.MethodName)) ∈ mm_gt := mm_in_gt 633 (by decide +kernel) rfl
theorem wd_634 : (Jvm.Cond.code ({ cls := "LessonCards$Memory", name := "moveByStrengths", desc := "(II)V" } : Jvm.MethodName) prog_10_method_20_code (5 : Nat) (Option.none : Option Jvm.ClassFile.FieldType)) ∈ mm_gt := mm_in_gt 634 (by decide +kernel) rfl
theorem wd_635 : (Jvm.Cond.constantLong "LessonCards$Memory" (86 : Nat) (1000 : Int64)) ∈ mm_gt := mm_in_gt 635 (by decide +kernel) rfl
theorem wd_636 : (Jvm.Cond.methodLink "LessonCards$Memory" (88 : Nat) ({ cls := "LessonCards$Memory", name := "boundedStrength", desc := "(J)I" } : Jvm.MethodName)) ∈ mm_gt := mm_in_gt 636 (by decide +kernel) rfl
theorem wd_637 : (Jvm.Cond.static ({ cls := "LessonCards$Memory", name := "boundedStrength", desc := "(J)I" } : Jvm.MethodName)) ∈ mm_gt := mm_in_gt 637 (by decide +kernel) rfl
theorem wd_638 : (Jvm.Cond.code ({ cls := "LessonCards$Memory", name := "boundedStrength", desc := "(J)I" } : Jvm.MethodName) prog_10_method_22_code (2 : Nat) (Option.some Jvm.ClassFile.FieldType.int)) ∈ mm_gt := mm_in_gt 638 (by decide +kernel) rfl
theorem wd_639 : (Jvm.Cond.constantLong "LessonCards$Memory" (100 : Nat) (500 : Int64)) ∈ mm_gt := mm_in_gt 639 (by decide +kernel) rfl
theorem wd_640 : (Jvm.Cond.constantLong "LessonCards$Memory" (102 : Nat) (4000000 : Int64)) ∈ mm_gt := mm_in_gt 640 (by decide +kernel) rfl
theorem wd_641 : (Jvm.Cond.methodLink "LessonCards$Memory" (104 : Nat) ({ cls := "java/lang/Math", name := "min", desc := "(JJ)J" } : Jvm.MethodName)) ∈ mm_gt := mm_in_gt 641 (by decide +kernel) rfl
theorem wd_642 : (Jvm.Cond.static ({ cls := "java/lang/Math", name := "min", desc := "(JJ)J" } : Jvm.MethodName)) ∈ mm_gt := mm_in_gt 642 (by decide +kernel) rfl
theorem wd_643 : (Jvm.Cond.code ({ cls := "java/lang/Math", name := "min", desc := "(JJ)J" } : Jvm.MethodName) prog_16_method_70_code (4 : Nat) (Option.some Jvm.ClassFile.FieldType.long)) ∈ mm_gt := mm_in_gt 643 (by decide +kernel) rfl
theorem wd_644 : (Jvm.Cond.methodLink "LessonCards$Memory" (107 : Nat) ({ cls := "java/lang/Math", name := "max", desc := "(JJ)J" } : Jvm.MethodName)) ∈ mm_gt := mm_in_gt 644 (by decide +kernel) rfl
theorem wd_645 : (Jvm.Cond.static ({ cls := "java/lang/Math", name := "max", desc := "(JJ)J" } : Jvm.MethodName)) ∈ mm_gt := mm_in_gt 645 (by decide +kernel) rfl
theorem wd_646 : (Jvm.Cond.code ({ cls := "java/lang/Math", name := "max", desc := "(JJ)J" } : Jvm.MethodName) prog_16_method_66_code (4 : Nat) (Option.some Jvm.ClassFile.FieldType.long)) ∈ mm_gt := mm_in_gt 646 (by decide +kernel) rfl
theorem wd_647 : (Jvm.Cond.methodLink "LessonCards$Memory" (95 : Nat) ({ cls := "LessonCards$Memory", name := "boundedEase", desc := "(I)I" } : Jvm.MethodName)) ∈ mm_gt := mm_in_gt 647 (by decide +kernel) rfl
theorem wd_648 : (Jvm.Cond.static ({ cls := "LessonCards$Memory", name := "boundedEase", desc := "(I)I" } : Jvm.MethodName)) ∈ mm_gt := mm_in_gt 648 (by decide +kernel) rfl
theorem wd_649 : (Jvm.Cond.code ({ cls := "LessonCards$Memory", name := "boundedEase", desc := "(I)I" } : Jvm.MethodName) prog_10_method_23_code (1 : Nat) (Option.some Jvm.ClassFile.FieldType.int)) ∈ mm_gt := mm_in_gt 649 (by decide +kernel) rfl
theorem wd_650 : (Jvm.Cond.methodLink "LessonCards$Memory" (66 : Nat) ({ cls := "java/lang/Math", name := "max", desc := "(II)I" } : Jvm.MethodName)) ∈ mm_gt := mm_in_gt 650 (by decide +kernel) rfl
theorem wd_651 : (Jvm.Cond.constantLong "LessonCards$Memory" (98 : Nat) (1300 : Int64)) ∈ mm_gt := mm_in_gt 651 (by decide +kernel) rfl
theorem wd_652 : (Jvm.Cond.methodLink "LessonCards" (155 : Nat) ({ cls := "LessonCards$Memory", name := "comesBack", desc := "()Z" } : Jvm.MethodName)) ∈ mm_gt := mm_in_gt 652 (by decide +kernel) rfl
theorem wd_653 : (Jvm.Cond.instanceMethod ({ cls := "LessonCards$Memory", name := "comesBack", desc := "()Z" } : Jvm.MethodName)) ∈ mm_gt := mm_in_gt 653 (by decide +kernel) rfl
theorem wd_654 : (Jvm.Cond.selects "LessonCards$Memory" ({ cls := "LessonCards$Memory", name := "comesBack", desc := "()Z" } : Jvm.MethodName) ({ cls := "LessonCards$Memory", name := "comesBack", desc := "()Z" } : Jvm.MethodName)) ∈ mm_gt := mm_in_gt 654 (by decide +kernel) rfl
theorem wd_655 : (Jvm.Cond.code ({ cls := "LessonCards$Memory", name := "comesBack", desc := "()Z" } : Jvm.MethodName) prog_10_method_17_code (1 : Nat) (Option.some Jvm.ClassFile.FieldType.boolean)) ∈ mm_gt := mm_in_gt 655 (by decide +kernel) rfl
theorem wd_656 : (Jvm.Cond.methodLink "LessonCards$Memory" (60 : Nat) ({ cls := "LessonCards$Memory", name := "isLeech", desc := "()Z" } : Jvm.MethodName)) ∈ mm_gt := mm_in_gt 656 (by decide +kernel) rfl
theorem wd_657 : (Jvm.Cond.instanceMethod ({ cls := "LessonCards$Memory", name := "isLeech", desc := "()Z" } : Jvm.MethodName)) ∈ mm_gt := mm_in_gt 657 (by decide +kernel) rfl
theorem wd_658 : (Jvm.Cond.selects "LessonCards$Memory" ({ cls := "LessonCards$Memory", name := "isLeech", desc := "()Z" } : Jvm.MethodName) ({ cls := "LessonCards$Memory", name := "isLeech", desc := "()Z" } : Jvm.MethodName)) ∈ mm_gt := mm_in_gt 658 (by decide +kernel) rfl
theorem wd_659 : (Jvm.Cond.code ({ cls := "LessonCards$Memory", name := "isLeech", desc := "()Z" } : Jvm.MethodName) prog_10_method_8_code (1 : Nat) (Option.some Jvm.ClassFile.FieldType.boolean)) ∈ mm_gt := mm_in_gt 659 (by decide +kernel) rfl
theorem wd_660 : (Jvm.Cond.methodLink "LessonCards" (159 : Nat) ({ cls := "LessonCards$Learner", name := "append", desc := "(I)V" } : Jvm.MethodName)) ∈ mm_gt := mm_in_gt 660 (by decide +kernel) rfl
theorem wd_661 : (Jvm.Cond.methodLink "LessonCardsLaw" (51 : Nat) ({ cls := "LessonCards", name := "skip", desc := "(I)I" } : Jvm.MethodName)) ∈ mm_gt := mm_in_gt 661 (by decide +kernel) rfl
theorem wd_662 : (Jvm.Cond.instanceMethod ({ cls := "LessonCards", name := "skip", desc := "(I)I" } : Jvm.MethodName)) ∈ mm_gt := mm_in_gt 662 (by decide +kernel) rfl
theorem wd_663 : (Jvm.Cond.selects "LessonCards" ({ cls := "LessonCards", name := "skip", desc := "(I)I" } : Jvm.MethodName) ({ cls := "LessonCards", name := "skip", desc := "(I)I" } : Jvm.MethodName)) ∈ mm_gt := mm_in_gt 663 (by decide +kernel) rfl
theorem wd_664 : (Jvm.Cond.code ({ cls := "LessonCards", name := "skip", desc := "(I)I" } : Jvm.MethodName) prog_1_method_11_code (4 : Nat) (Option.some Jvm.ClassFile.FieldType.int)) ∈ mm_gt := mm_in_gt 664 (by decide +kernel) rfl
theorem wd_665 : (Jvm.Cond.methodLink "LessonCardsLaw" (55 : Nat) ({ cls := "LessonCards", name := "bury", desc := "(III)I" } : Jvm.MethodName)) ∈ mm_gt := mm_in_gt 665 (by decide +kernel) rfl
theorem wd_666 : (Jvm.Cond.instanceMethod ({ cls := "LessonCards", name := "bury", desc := "(III)I" } : Jvm.MethodName)) ∈ mm_gt := mm_in_gt 666 (by decide +kernel) rfl
theorem wd_667 : (Jvm.Cond.selects "LessonCards" ({ cls := "LessonCards", name := "bury", desc := "(III)I" } : Jvm.MethodName) ({ cls := "LessonCards", name := "bury", desc := "(III)I" } : Jvm.MethodName)) ∈ mm_gt := mm_in_gt 667 (by decide +kernel) rfl
theorem wd_668 : (Jvm.Cond.code ({ cls := "LessonCards", name := "bury", desc := "(III)I" } : Jvm.MethodName) prog_1_method_12_code (6 : Nat) (Option.some Jvm.ClassFile.FieldType.int)) ∈ mm_gt := mm_in_gt 668 (by decide +kernel) rfl
theorem wd_669 : (Jvm.Cond.methodLink "LessonCards" (162 : Nat) ({ cls := "LessonCards", name := "memoryOf", desc := "(III)LLessonCards$Memory;" } : Jvm.MethodName)) ∈ mm_gt := mm_in_gt 669 (by decide +kernel) rfl
theorem wd_671 : (Jvm.Cond.instanceMethod ({ cls := "LessonCards", name := "memoryOf", desc := "(III)LLessonCards$Memory;" } : Jvm.MethodName)) ∈ mm_gt := mm_in_gt 671 (by decide +kernel) rfl
theorem wd_672 : (Jvm.Cond.code ({ cls := "LessonCards", name := "memoryOf", desc := "(III)LLessonCards$Memory;" } : Jvm.MethodName) prog_1_method_37_code (5 : Nat) (Option.some (Jvm.ClassFile.FieldType.object "LessonCards$Memory"))) ∈ mm_gt := mm_in_gt 672 (by decide +kernel) rfl
theorem wd_673 : (Jvm.Cond.methodLink "LessonCards" (229 : Nat) ({ cls := "LessonCards$Learner", name := "memoryOf", desc := "(II)LLessonCards$Memory;" } : Jvm.MethodName)) ∈ mm_gt := mm_in_gt 673 (by decide +kernel) rfl
theorem wd_674 : (Jvm.Cond.instanceMethod ({ cls := "LessonCards$Learner", name := "memoryOf", desc := "(II)LLessonCards$Memory;" } : Jvm.MethodName)) ∈ mm_gt := mm_in_gt 674 (by decide +kernel) rfl
theorem wd_675 : (Jvm.Cond.selects "LessonCards$Learner" ({ cls := "LessonCards$Learner", name := "memoryOf", desc := "(II)LLessonCards$Memory;" } : Jvm.MethodName) ({ cls := "LessonCards$Learner", name := "memoryOf", desc := "(II)LLessonCards$Memory;" } : Jvm.MethodName)) ∈ mm_gt := mm_in_gt 675 (by decide +kernel) rfl
theorem wd_676 : (Jvm.Cond.code ({ cls := "LessonCards$Learner", name := "memoryOf", desc := "(II)LLessonCards$Memory;" } : Jvm.MethodName) prog_8_method_4_code (4 : Nat) (Option.some (Jvm.ClassFile.FieldType.object "LessonCards$Memory"))) ∈ mm_gt := mm_in_gt 676 (by decide +kernel) rfl
theorem wd_677 : (Jvm.Cond.methodLink "LessonCards" (170 : Nat) ({ cls := "LessonCards", name := "placeOf", desc := "(II)I" } : Jvm.MethodName)) ∈ mm_gt := mm_in_gt 677 (by decide +kernel) rfl
theorem wd_678 : (Jvm.Cond.methodLink "LessonCards" (174 : Nat) ({ cls := "LessonCards$Learner", name := "drop", desc := "(I)V" } : Jvm.MethodName)) ∈ mm_gt := mm_in_gt 678 (by decide +kernel) rfl
theorem wd_679 : (Jvm.Cond.methodLink "LessonCardsLaw" (60 : Nat) ({ cls := "LessonCards", name := "undo", desc := "()I" } : Jvm.MethodName)) ∈ mm_gt := mm_in_gt 679 (by decide +kernel) rfl
theorem wd_680 : (Jvm.Cond.instanceMethod ({ cls := "LessonCards", name := "undo", desc := "()I" } : Jvm.MethodName)) ∈ mm_gt := mm_in_gt 680 (by decide +kernel) rfl
theorem wd_681 : (Jvm.Cond.selects "LessonCards" ({ cls := "LessonCards", name := "undo", desc := "()I" } : Jvm.MethodName) ({ cls := "LessonCards", name := "undo", desc := "()I" } : Jvm.MethodName)) ∈ mm_gt := mm_in_gt 681 (by decide +kernel) rfl
theorem wd_682 : (Jvm.Cond.code ({ cls := "LessonCards", name := "undo", desc := "()I" } : Jvm.MethodName) prog_1_method_13_code (4 : Nat) (Option.some Jvm.ClassFile.FieldType.int)) ∈ mm_gt := mm_in_gt 682 (by decide +kernel) rfl
theorem wd_683 : (Jvm.Cond.methodLink "LessonCards" (177 : Nat) ({ cls := "java/util/ArrayList", name := "isEmpty", desc := "()Z" } : Jvm.MethodName)) ∈ mm_gt := mm_in_gt 683 (by decide +kernel) rfl
theorem wd_684 : (Jvm.Cond.instanceMethod ({ cls := "java/util/ArrayList", name := "isEmpty", desc := "()Z" } : Jvm.MethodName)) ∈ mm_gt := mm_in_gt 684 (by decide +kernel) rfl
theorem wd_685 : (Jvm.Cond.selects "java/util/ArrayList" ({ cls := "java/util/ArrayList", name := "isEmpty", desc := "()Z" } : Jvm.MethodName) ({ cls := "java/util/ArrayList", name := "isEmpty", desc := "()Z" } : Jvm.MethodName)) ∈ mm_gt := mm_in_gt 685 (by decide +kernel) rfl
theorem wd_686 : (Jvm.Cond.code ({ cls := "java/util/ArrayList", name := "isEmpty", desc := "()Z" } : Jvm.MethodName) prog_20_method_9_code (1 : Nat) (Option.some Jvm.ClassFile.FieldType.boolean)) ∈ mm_gt := mm_in_gt 686 (by decide +kernel) rfl
theorem wd_687 : (Jvm.Cond.methodLink "LessonCards" (180 : Nat) ({ cls := "java/util/ArrayList", name := "remove", desc := "(I)Ljava/lang/Object;" } : Jvm.MethodName)) ∈ mm_gt := mm_in_gt 687 (by decide +kernel) rfl
theorem wd_688 : (Jvm.Cond.instanceMethod ({ cls := "java/util/ArrayList", name := "remove", desc := "(I)Ljava/lang/Object;" } : Jvm.MethodName)) ∈ mm_gt := mm_in_gt 688 (by decide +kernel) rfl
theorem wd_689 : (Jvm.Cond.selects "java/util/ArrayList" ({ cls := "java/util/ArrayList", name := "remove", desc := "(I)Ljava/lang/Object;" } : Jvm.MethodName) ({ cls := "java/util/ArrayList", name := "remove", desc := "(I)Ljava/lang/Object;" } : Jvm.MethodName)) ∈ mm_gt := mm_in_gt 689 (by decide +kernel) rfl
theorem wd_690 : (Jvm.Cond.code ({ cls := "java/util/ArrayList", name := "remove", desc := "(I)Ljava/lang/Object;" } : Jvm.MethodName) prog_20_method_29_code (4 : Nat) (Option.some (Jvm.ClassFile.FieldType.object "java/lang/Object"))) ∈ mm_gt := mm_in_gt 690 (by decide +kernel) rfl
theorem wd_691 : (Jvm.Cond.methodLink "java/util/ArrayList" (144 : Nat) ({ cls := "java/util/ArrayList", name := "fastRemove", desc := "([Ljava/lang/Object;I)V" } : Jvm.MethodName)) ∈ mm_gt := mm_in_gt 691 (by decide +kernel) rfl
theorem wd_693 : (Jvm.Cond.instanceMethod ({ cls := "java/util/ArrayList", name := "fastRemove", desc := "([Ljava/lang/Object;I)V" } : Jvm.MethodName)) ∈ mm_gt := mm_in_gt 693 (by decide +kernel) rfl
theorem wd_694 : (Jvm.Cond.code ({ cls := "java/util/ArrayList", name := "fastRemove", desc := "([Ljava/lang/Object;I)V" } : Jvm.MethodName) prog_20_method_39_code (4 : Nat) (Option.none : Option Jvm.ClassFile.FieldType)) ∈ mm_gt := mm_in_gt 694 (by decide +kernel) rfl
theorem wd_696 : (Jvm.Cond.methodLink "LessonCards" (194 : Nat) ({ cls := "LessonCards$Memory", name := "become", desc := "(LLessonCards$Memory;)V" } : Jvm.MethodName)) ∈ mm_gt := mm_in_gt 696 (by decide +kernel) rfl
theorem wd_697 : (Jvm.Cond.methodLink "LessonCardsLaw" (65 : Nat) ({ cls := "LessonCards", name := "memory", desc := "(IIII)I" } : Jvm.MethodName)) ∈ mm_gt := mm_in_gt 697 (by decide +kernel) rfl
theorem wd_698 : (Jvm.Cond.instanceMethod ({ cls := "LessonCards", name := "memory", desc := "(IIII)I" } : Jvm.MethodName)) ∈ mm_gt := mm_in_gt 698 (by decide +kernel) rfl
theorem wd_699 : (Jvm.Cond.selects "LessonCards" ({ cls := "LessonCards", name := "memory", desc := "(IIII)I" } : Jvm.MethodName) ({ cls := "LessonCards", name := "memory", desc := "(IIII)I" } : Jvm.MethodName)) ∈ mm_gt := mm_in_gt 699 (by decide +kernel) rfl
theorem wd_700 : (Jvm.Cond.code ({ cls := "LessonCards", name := "memory", desc := "(IIII)I" } : Jvm.MethodName) prog_1_method_14_code (7 : Nat) (Option.some Jvm.ClassFile.FieldType.int)) ∈ mm_gt := mm_in_gt 700 (by decide +kernel) rfl
theorem wd_701 : (Jvm.Cond.methodLink "LessonCards" (198 : Nat) ({ cls := "LessonCards$Memory", name := "tell", desc := "(I)I" } : Jvm.MethodName)) ∈ mm_gt := mm_in_gt 701 (by decide +kernel) rfl
theorem wd_702 : (Jvm.Cond.instanceMethod ({ cls := "LessonCards$Memory", name := "tell", desc := "(I)I" } : Jvm.MethodName)) ∈ mm_gt := mm_in_gt 702 (by decide +kernel) rfl
theorem wd_703 : (Jvm.Cond.selects "LessonCards$Memory" ({ cls := "LessonCards$Memory", name := "tell", desc := "(I)I" } : Jvm.MethodName) ({ cls := "LessonCards$Memory", name := "tell", desc := "(I)I" } : Jvm.MethodName)) ∈ mm_gt := mm_in_gt 703 (by decide +kernel) rfl
theorem wd_704 : (Jvm.Cond.code ({ cls := "LessonCards$Memory", name := "tell", desc := "(I)I" } : Jvm.MethodName) prog_10_method_15_code (2 : Nat) (Option.some Jvm.ClassFile.FieldType.int)) ∈ mm_gt := mm_in_gt 704 (by decide +kernel) rfl
theorem wd_705 : (Jvm.Cond.methodLink "LessonCards" (201 : Nat) ({ cls := "LessonCards$Memory", name := "tellOn", desc := "(IILLessonCards$Curve;)I" } : Jvm.MethodName)) ∈ mm_gt := mm_in_gt 705 (by decide +kernel) rfl
theorem wd_706 : (Jvm.Cond.instanceMethod ({ cls := "LessonCards$Memory", name := "tellOn", desc := "(IILLessonCards$Curve;)I" } : Jvm.MethodName)) ∈ mm_gt := mm_in_gt 706 (by decide +kernel) rfl
theorem wd_707 : (Jvm.Cond.selects "LessonCards$Memory" ({ cls := "LessonCards$Memory", name := "tellOn", desc := "(IILLessonCards$Curve;)I" } : Jvm.MethodName) ({ cls := "LessonCards$Memory", name := "tellOn", desc := "(IILLessonCards$Curve;)I" } : Jvm.MethodName)) ∈ mm_gt := mm_in_gt 707 (by decide +kernel) rfl
theorem wd_708 : (Jvm.Cond.code ({ cls := "LessonCards$Memory", name := "tellOn", desc := "(IILLessonCards$Curve;)I" } : Jvm.MethodName) prog_10_method_16_code (4 : Nat) (Option.some Jvm.ClassFile.FieldType.int)) ∈ mm_gt := mm_in_gt 708 (by decide +kernel) rfl
theorem wd_709 : (Jvm.Cond.methodLink "LessonCards$Memory" (53 : Nat) ({ cls := "LessonCards$Memory", name := "isDue", desc := "(ILLessonCards$Curve;)Z" } : Jvm.MethodName)) ∈ mm_gt := mm_in_gt 709 (by decide +kernel) rfl
theorem wd_710 : (Jvm.Cond.methodLink "LessonCards$Memory" (72 : Nat) ({ cls := "LessonCards$Memory", name := "isKnown", desc := "(ILLessonCards$Curve;)Z" } : Jvm.MethodName)) ∈ mm_gt := mm_in_gt 710 (by decide +kernel) rfl
theorem wd_711 : (Jvm.Cond.methodLink "LessonCardsLaw" (70 : Nat) ({ cls := "LessonCards", name := "when", desc := "(III)I" } : Jvm.MethodName)) ∈ mm_gt := mm_in_gt 711 (by decide +kernel) rfl
theorem wd_712 : (Jvm.Cond.instanceMethod ({ cls := "LessonCards", name := "when", desc := "(III)I" } : Jvm.MethodName)) ∈ mm_gt := mm_in_gt 712 (by decide +kernel) rfl
theorem wd_713 : (Jvm.Cond.selects "LessonCards" ({ cls := "LessonCards", name := "when", desc := "(III)I" } : Jvm.MethodName) ({ cls := "LessonCards", name := "when", desc := "(III)I" } : Jvm.MethodName)) ∈ mm_gt := mm_in_gt 713 (by decide +kernel) rfl
theorem wd_714 : (Jvm.Cond.code ({ cls := "LessonCards", name := "when", desc := "(III)I" } : Jvm.MethodName) prog_1_method_15_code (6 : Nat) (Option.some Jvm.ClassFile.FieldType.int)) ∈ mm_gt := mm_in_gt 714 (by decide +kernel) rfl
theorem wd_715 : (Jvm.Cond.methodLink "LessonCards" (205 : Nat) ({ cls := "LessonCards$Memory", name := "isToCome", desc := "()Z" } : Jvm.MethodName)) ∈ mm_gt := mm_in_gt 715 (by decide +kernel) rfl
theorem wd_716 : (Jvm.Cond.methodLink "LessonCards" (208 : Nat) ({ cls := "LessonCards$Memory", name := "firstDue", desc := "(ILLessonCards$Curve;)I" } : Jvm.MethodName)) ∈ mm_gt := mm_in_gt 716 (by decide +kernel) rfl
theorem wd_717 : (Jvm.Cond.instanceMethod ({ cls := "LessonCards$Memory", name := "firstDue", desc := "(ILLessonCards$Curve;)I" } : Jvm.MethodName)) ∈ mm_gt := mm_in_gt 717 (by decide +kernel) rfl
theorem wd_718 : (Jvm.Cond.selects "LessonCards$Memory" ({ cls := "LessonCards$Memory", name := "firstDue", desc := "(ILLessonCards$Curve;)I" } : Jvm.MethodName) ({ cls := "LessonCards$Memory", name := "firstDue", desc := "(ILLessonCards$Curve;)I" } : Jvm.MethodName)) ∈ mm_gt := mm_in_gt 718 (by decide +kernel) rfl
theorem wd_719 : (Jvm.Cond.code ({ cls := "LessonCards$Memory", name := "firstDue", desc := "(ILLessonCards$Curve;)I" } : Jvm.MethodName) prog_10_method_14_code (4 : Nat) (Option.some Jvm.ClassFile.FieldType.int)) ∈ mm_gt := mm_in_gt 719 (by decide +kernel) rfl
theorem wd_720 : (Jvm.Cond.methodLink "LessonCardsLaw" (74 : Nat) ({ cls := "LessonCards", name := "pupil", desc := "(II)I" } : Jvm.MethodName)) ∈ mm_gt := mm_in_gt 720 (by decide +kernel) rfl
theorem wd_721 : (Jvm.Cond.instanceMethod ({ cls := "LessonCards", name := "pupil", desc := "(II)I" } : Jvm.MethodName)) ∈ mm_gt := mm_in_gt 721 (by decide +kernel) rfl
theorem wd_722 : (Jvm.Cond.selects "LessonCards" ({ cls := "LessonCards", name := "pupil", desc := "(II)I" } : Jvm.MethodName) ({ cls := "LessonCards", name := "pupil", desc := "(II)I" } : Jvm.MethodName)) ∈ mm_gt := mm_in_gt 722 (by decide +kernel) rfl
theorem wd_723 : (Jvm.Cond.code ({ cls := "LessonCards", name := "pupil", desc := "(II)I" } : Jvm.MethodName) prog_1_method_16_code (4 : Nat) (Option.some Jvm.ClassFile.FieldType.int)) ∈ mm_gt := mm_in_gt 723 (by decide +kernel) rfl
theorem wd_724 : (Jvm.Cond.methodLink "LessonCards" (212 : Nat) ({ cls := "LessonCards$Learner", name := "countKnown", desc := "(LLessonCards$Curve;)I" } : Jvm.MethodName)) ∈ mm_gt := mm_in_gt 724 (by decide +kernel) rfl
theorem wd_725 : (Jvm.Cond.instanceMethod ({ cls := "LessonCards$Learner", name := "countKnown", desc := "(LLessonCards$Curve;)I" } : Jvm.MethodName)) ∈ mm_gt := mm_in_gt 725 (by decide +kernel) rfl
theorem wd_726 : (Jvm.Cond.selects "LessonCards$Learner" ({ cls := "LessonCards$Learner", name := "countKnown", desc := "(LLessonCards$Curve;)I" } : Jvm.MethodName) ({ cls := "LessonCards$Learner", name := "countKnown", desc := "(LLessonCards$Curve;)I" } : Jvm.MethodName)) ∈ mm_gt := mm_in_gt 726 (by decide +kernel) rfl
theorem wd_727 : (Jvm.Cond.code ({ cls := "LessonCards$Learner", name := "countKnown", desc := "(LLessonCards$Curve;)I" } : Jvm.MethodName) prog_8_method_9_code (4 : Nat) (Option.some Jvm.ClassFile.FieldType.int)) ∈ mm_gt := mm_in_gt 727 (by decide +kernel) rfl
theorem wd_728 : (Jvm.Cond.methodLink "LessonCards" (216 : Nat) ({ cls := "LessonCards$Learner", name := "countSides", desc := "(ILLessonCards$Curve;)I" } : Jvm.MethodName)) ∈ mm_gt := mm_in_gt 728 (by decide +kernel) rfl
theorem wd_729 : (Jvm.Cond.instanceMethod ({ cls := "LessonCards$Learner", name := "countSides", desc := "(ILLessonCards$Curve;)I" } : Jvm.MethodName)) ∈ mm_gt := mm_in_gt 729 (by decide +kernel) rfl
theorem wd_730 : (Jvm.Cond.selects "LessonCards$Learner" ({ cls := "LessonCards$Learner", name := "countSides", desc := "(ILLessonCards$Curve;)I" } : Jvm.MethodName) ({ cls := "LessonCards$Learner", name := "countSides", desc := "(ILLessonCards$Curve;)I" } : Jvm.MethodName)) ∈ mm_gt := mm_in_gt 730 (by decide +kernel) rfl
theorem wd_731 : (Jvm.Cond.code ({ cls := "LessonCards$Learner", name := "countSides", desc := "(ILLessonCards$Curve;)I" } : Jvm.MethodName) prog_8_method_10_code (5 : Nat) (Option.some Jvm.ClassFile.FieldType.int)) ∈ mm_gt := mm_in_gt 731 (by decide +kernel) rfl
theorem wd_732 : (Jvm.Cond.methodLink "LessonCards$Learner" (68 : Nat) ({ cls := "LessonCards$Hand", name := "countSides", desc := "(IILLessonCards$Curve;)I" } : Jvm.MethodName)) ∈ mm_gt := mm_in_gt 732 (by decide +kernel) rfl
theorem wd_733 : (Jvm.Cond.instanceMethod ({ cls := "LessonCards$Hand", name := "countSides", desc := "(IILLessonCards$Curve;)I" } : Jvm.MethodName)) ∈ mm_gt := mm_in_gt 733 (by decide +kernel) rfl
theorem wd_734 : (Jvm.Cond.selects "LessonCards$Hand" ({ cls := "LessonCards$Hand", name := "countSides", desc := "(IILLessonCards$Curve;)I" } : Jvm.MethodName) ({ cls := "LessonCards$Hand", name := "countSides", desc := "(IILLessonCards$Curve;)I" } : Jvm.MethodName)) ∈ mm_gt := mm_in_gt 734 (by decide +kernel) rfl
theorem wd_735 : (Jvm.Cond.code ({ cls := "LessonCards$Hand", name := "countSides", desc := "(IILLessonCards$Curve;)I" } : Jvm.MethodName) prog_7_method_8_code (6 : Nat) (Option.some Jvm.ClassFile.FieldType.int)) ∈ mm_gt := mm_in_gt 735 (by decide +kernel) rfl
theorem wd_736 : (Jvm.Cond.methodLink "LessonCards$Hand" (44 : Nat) ({ cls := "LessonCards$Memory", name := "isOfKind", desc := "(IILLessonCards$Curve;)Z" } : Jvm.MethodName)) ∈ mm_gt := mm_in_gt 736 (by decide +kernel) rfl
theorem wd_737 : (Jvm.Cond.instanceMethod ({ cls := "LessonCards$Memory", name := "isOfKind", desc := "(IILLessonCards$Curve;)Z" } : Jvm.MethodName)) ∈ mm_gt := mm_in_gt 737 (by decide +kernel) rfl
theorem wd_738 : (Jvm.Cond.selects "LessonCards$Memory" ({ cls := "LessonCards$Memory", name := "isOfKind", desc := "(IILLessonCards$Curve;)Z" } : Jvm.MethodName) ({ cls := "LessonCards$Memory", name := "isOfKind", desc := "(IILLessonCards$Curve;)Z" } : Jvm.MethodName)) ∈ mm_gt := mm_in_gt 738 (by decide +kernel) rfl
theorem wd_739 : (Jvm.Cond.code ({ cls := "LessonCards$Memory", name := "isOfKind", desc := "(IILLessonCards$Curve;)Z" } : Jvm.MethodName) prog_10_method_13_code (4 : Nat) (Option.some Jvm.ClassFile.FieldType.boolean)) ∈ mm_gt := mm_in_gt 739 (by decide +kernel) rfl
theorem wd_740 : (Jvm.Cond.methodLink "LessonCardsLaw" (78 : Nat) ({ cls := "LessonCards", name := "known", desc := "(II)I" } : Jvm.MethodName)) ∈ mm_gt := mm_in_gt 740 (by decide +kernel) rfl
theorem wd_741 : (Jvm.Cond.instanceMethod ({ cls := "LessonCards", name := "known", desc := "(II)I" } : Jvm.MethodName)) ∈ mm_gt := mm_in_gt 741 (by decide +kernel) rfl
theorem wd_742 : (Jvm.Cond.selects "LessonCards" ({ cls := "LessonCards", name := "known", desc := "(II)I" } : Jvm.MethodName) ({ cls := "LessonCards", name := "known", desc := "(II)I" } : Jvm.MethodName)) ∈ mm_gt := mm_in_gt 742 (by decide +kernel) rfl
theorem wd_743 : (Jvm.Cond.code ({ cls := "LessonCards", name := "known", desc := "(II)I" } : Jvm.MethodName) prog_1_method_17_code (5 : Nat) (Option.some Jvm.ClassFile.FieldType.int)) ∈ mm_gt := mm_in_gt 743 (by decide +kernel) rfl
theorem wd_744 : (Jvm.Cond.methodLink "LessonCards" (219 : Nat) ({ cls := "LessonCards$Learner", name := "handAt", desc := "(I)LLessonCards$Hand;" } : Jvm.MethodName)) ∈ mm_gt := mm_in_gt 744 (by decide +kernel) rfl
theorem wd_745 : (Jvm.Cond.methodLink "LessonCards" (223 : Nat) ({ cls := "LessonCards$Hand", name := "isKnown", desc := "(ILLessonCards$Curve;)Z" } : Jvm.MethodName)) ∈ mm_gt := mm_in_gt 745 (by decide +kernel) rfl
theorem wd_746 : (Jvm.Cond.methodLink "LessonCardsLaw" (82 : Nat) ({ cls := "LessonCards", name := "mean", desc := "(II)I" } : Jvm.MethodName)) ∈ mm_gt := mm_in_gt 746 (by decide +kernel) rfl
theorem wd_747 : (Jvm.Cond.instanceMethod ({ cls := "LessonCards", name := "mean", desc := "(II)I" } : Jvm.MethodName)) ∈ mm_gt := mm_in_gt 747 (by decide +kernel) rfl
theorem wd_748 : (Jvm.Cond.selects "LessonCards" ({ cls := "LessonCards", name := "mean", desc := "(II)I" } : Jvm.MethodName) ({ cls := "LessonCards", name := "mean", desc := "(II)I" } : Jvm.MethodName)) ∈ mm_gt := mm_in_gt 748 (by decide +kernel) rfl
theorem wd_749 : (Jvm.Cond.code ({ cls := "LessonCards", name := "mean", desc := "(II)I" } : Jvm.MethodName) prog_1_method_18_code (6 : Nat) (Option.some Jvm.ClassFile.FieldType.int)) ∈ mm_gt := mm_in_gt 749 (by decide +kernel) rfl
theorem wd_750 : (Jvm.Cond.methodLink "LessonCards" (232 : Nat) ({ cls := "LessonCards$Memory", name := "chanceOn", desc := "(ILLessonCards$Curve;)I" } : Jvm.MethodName)) ∈ mm_gt := mm_in_gt 750 (by decide +kernel) rfl
theorem wd_751 : (Jvm.Cond.methodLink "LessonCardsLaw" (86 : Nat) ({ cls := "LessonCards", name := "plan", desc := "(II)I" } : Jvm.MethodName)) ∈ mm_gt := mm_in_gt 751 (by decide +kernel) rfl
theorem wd_752 : (Jvm.Cond.instanceMethod ({ cls := "LessonCards", name := "plan", desc := "(II)I" } : Jvm.MethodName)) ∈ mm_gt := mm_in_gt 752 (by decide +kernel) rfl
theorem wd_753 : (Jvm.Cond.selects "LessonCards" ({ cls := "LessonCards", name := "plan", desc := "(II)I" } : Jvm.MethodName) ({ cls := "LessonCards", name := "plan", desc := "(II)I" } : Jvm.MethodName)) ∈ mm_gt := mm_in_gt 753 (by decide +kernel) rfl
theorem wd_754 : (Jvm.Cond.code ({ cls := "LessonCards", name := "plan", desc := "(II)I" } : Jvm.MethodName) prog_1_method_19_code (8 : Nat) (Option.some Jvm.ClassFile.FieldType.int)) ∈ mm_gt := mm_in_gt 754 (by decide +kernel) rfl
theorem wd_755 : (Jvm.Cond.methodLink "LessonCards" (235 : Nat) ({ cls := "LessonCards$Hand", name := "become", desc := "(LLessonCards$Hand;)V" } : Jvm.MethodName)) ∈ mm_gt := mm_in_gt 755 (by decide +kernel) rfl
theorem wd_756 : (Jvm.Cond.instanceMethod ({ cls := "LessonCards$Hand", name := "become", desc := "(LLessonCards$Hand;)V" } : Jvm.MethodName)) ∈ mm_gt := mm_in_gt 756 (by decide +kernel) rfl
theorem wd_757 : (Jvm.Cond.selects "LessonCards$Hand" ({ cls := "LessonCards$Hand", name := "become", desc := "(LLessonCards$Hand;)V" } : Jvm.MethodName) ({ cls := "LessonCards$Hand", name := "become", desc := "(LLessonCards$Hand;)V" } : Jvm.MethodName)) ∈ mm_gt := mm_in_gt 757 (by decide +kernel) rfl
theorem wd_758 : (Jvm.Cond.code ({ cls := "LessonCards$Hand", name := "become", desc := "(LLessonCards$Hand;)V" } : Jvm.MethodName) prog_7_method_3_code (4 : Nat) (Option.none : Option Jvm.ClassFile.FieldType)) ∈ mm_gt := mm_in_gt 758 (by decide +kernel) rfl
theorem wd_759 : (Jvm.Cond.methodLink "LessonCards$Hand" (18 : Nat) ({ cls := "LessonCards$Hand", name := "memoryAt", desc := "(I)LLessonCards$Memory;" } : Jvm.MethodName)) ∈ mm_gt := mm_in_gt 759 (by decide +kernel) rfl
theorem wd_760 : (Jvm.Cond.methodLink "LessonCards$Hand" (22 : Nat) ({ cls := "LessonCards$Memory", name := "become", desc := "(LLessonCards$Memory;)V" } : Jvm.MethodName)) ∈ mm_gt := mm_in_gt 760 (by decide +kernel) rfl
theorem wd_761 : (Jvm.Cond.methodLink "LessonCards" (238 : Nat) ({ cls := "LessonCards", name := "isAskedOn", desc := "(LLessonCards$Hand;II)Z" } : Jvm.MethodName)) ∈ mm_gt := mm_in_gt 761 (by decide +kernel) rfl
theorem wd_763 : (Jvm.Cond.instanceMethod ({ cls := "LessonCards", name := "isAskedOn", desc := "(LLessonCards$Hand;II)Z" } : Jvm.MethodName)) ∈ mm_gt := mm_in_gt 763 (by decide +kernel) rfl
theorem wd_764 : (Jvm.Cond.code ({ cls := "LessonCards", name := "isAskedOn", desc := "(LLessonCards$Hand;II)Z" } : Jvm.MethodName) prog_1_method_38_code (7 : Nat) (Option.some Jvm.ClassFile.FieldType.boolean)) ∈ mm_gt := mm_in_gt 764 (by decide +kernel) rfl
theorem wd_765 : (Jvm.Cond.methodLink "LessonCards" (296 : Nat) ({ cls := "LessonCards$Hand", name := "mostUrgent", desc := "(ILLessonCards$Curve;)I" } : Jvm.MethodName)) ∈ mm_gt := mm_in_gt 765 (by decide +kernel) rfl
theorem wd_766 : (Jvm.Cond.methodLink "LessonCards" (299 : Nat) ({ cls := "LessonCards$Hand", name := "memoryAt", desc := "(I)LLessonCards$Memory;" } : Jvm.MethodName)) ∈ mm_gt := mm_in_gt 766 (by decide +kernel) rfl
theorem wd_767 : (Jvm.Cond.methodLink "LessonCards" (300 : Nat) ({ cls := "LessonCards$Hand", name := "forgetToday", desc := "()V" } : Jvm.MethodName)) ∈ mm_gt := mm_in_gt 767 (by decide +kernel) rfl
theorem wd_768 : (Jvm.Cond.methodLink "LessonCardsLaw" (90 : Nat) ({ cls := "LessonCards", name := "even", desc := "(II)I" } : Jvm.MethodName)) ∈ mm_gt := mm_in_gt 768 (by decide +kernel) rfl
theorem wd_769 : (Jvm.Cond.instanceMethod ({ cls := "LessonCards", name := "even", desc := "(II)I" } : Jvm.MethodName)) ∈ mm_gt := mm_in_gt 769 (by decide +kernel) rfl
theorem wd_770 : (Jvm.Cond.selects "LessonCards" ({ cls := "LessonCards", name := "even", desc := "(II)I" } : Jvm.MethodName) ({ cls := "LessonCards", name := "even", desc := "(II)I" } : Jvm.MethodName)) ∈ mm_gt := mm_in_gt 770 (by decide +kernel) rfl
theorem wd_771 : (Jvm.Cond.code ({ cls := "LessonCards", name := "even", desc := "(II)I" } : Jvm.MethodName) prog_1_method_20_code (4 : Nat) (Option.some Jvm.ClassFile.FieldType.int)) ∈ mm_gt := mm_in_gt 771 (by decide +kernel) rfl
theorem wd_772 : (Jvm.Cond.methodLink "LessonCards" (242 : Nat) ({ cls := "LessonCards$Evening", name := "gather", desc := "(LLessonCards$Learner;LLessonCards$Curve;)V" } : Jvm.MethodName)) ∈ mm_gt := mm_in_gt 772 (by decide +kernel) rfl
theorem wd_773 : (Jvm.Cond.instanceMethod ({ cls := "LessonCards$Evening", name := "gather", desc := "(LLessonCards$Learner;LLessonCards$Curve;)V" } : Jvm.MethodName)) ∈ mm_gt := mm_in_gt 773 (by decide +kernel) rfl
theorem wd_774 : (Jvm.Cond.selects "LessonCards$Evening" ({ cls := "LessonCards$Evening", name := "gather", desc := "(LLessonCards$Learner;LLessonCards$Curve;)V" } : Jvm.MethodName) ({ cls := "LessonCards$Evening", name := "gather", desc := "(LLessonCards$Learner;LLessonCards$Curve;)V" } : Jvm.MethodName)) ∈ mm_gt := mm_in_gt 774 (by decide +kernel) rfl
theorem wd_775 : (Jvm.Cond.code ({ cls := "LessonCards$Evening", name := "gather", desc := "(LLessonCards$Learner;LLessonCards$Curve;)V" } : Jvm.MethodName) prog_6_method_2_code (5 : Nat) (Option.none : Option Jvm.ClassFile.FieldType)) ∈ mm_gt := mm_in_gt 775 (by decide +kernel) rfl
theorem wd_776 : (Jvm.Cond.methodLink "LessonCards$Evening" (25 : Nat) ({ cls := "LessonCards$Learner", name := "memoryAt", desc := "(I)LLessonCards$Memory;" } : Jvm.MethodName)) ∈ mm_gt := mm_in_gt 776 (by decide +kernel) rfl
theorem wd_777 : (Jvm.Cond.methodLink "LessonCards$Evening" (31 : Nat) ({ cls := "LessonCards$Memory", name := "isToCome", desc := "()Z" } : Jvm.MethodName)) ∈ mm_gt := mm_in_gt 777 (by decide +kernel) rfl
theorem wd_778 : (Jvm.Cond.methodLink "LessonCards$Evening" (40 : Nat) ({ cls := "LessonCards$Memory", name := "firstDue", desc := "(ILLessonCards$Curve;)I" } : Jvm.MethodName)) ∈ mm_gt := mm_in_gt 778 (by decide +kernel) rfl
theorem wd_779 : (Jvm.Cond.methodLink "LessonCards$Evening" (44 : Nat) ({ cls := "LessonCards$Evening", name := "addSide", desc := "(II)V" } : Jvm.MethodName)) ∈ mm_gt := mm_in_gt 779 (by decide +kernel) rfl
theorem wd_781 : (Jvm.Cond.instanceMethod ({ cls := "LessonCards$Evening", name := "addSide", desc := "(II)V" } : Jvm.MethodName)) ∈ mm_gt := mm_in_gt 781 (by decide +kernel) rfl
theorem wd_782 : (Jvm.Cond.code ({ cls := "LessonCards$Evening", name := "addSide", desc := "(II)V" } : Jvm.MethodName) prog_6_method_3_code (5 : Nat) (Option.none : Option Jvm.ClassFile.FieldType)) ∈ mm_gt := mm_in_gt 782 (by decide +kernel) rfl
theorem wd_783 : (Jvm.Cond.methodLink "LessonCards" (246 : Nat) ({ cls := "LessonCards$Evening", name := "leastGreatest", desc := "(I)I" } : Jvm.MethodName)) ∈ mm_gt := mm_in_gt 783 (by decide +kernel) rfl
theorem wd_784 : (Jvm.Cond.instanceMethod ({ cls := "LessonCards$Evening", name := "leastGreatest", desc := "(I)I" } : Jvm.MethodName)) ∈ mm_gt := mm_in_gt 784 (by decide +kernel) rfl
theorem wd_785 : (Jvm.Cond.selects "LessonCards$Evening" ({ cls := "LessonCards$Evening", name := "leastGreatest", desc := "(I)I" } : Jvm.MethodName) ({ cls := "LessonCards$Evening", name := "leastGreatest", desc := "(I)I" } : Jvm.MethodName)) ∈ mm_gt := mm_in_gt 785 (by decide +kernel) rfl
theorem wd_786 : (Jvm.Cond.code ({ cls := "LessonCards$Evening", name := "leastGreatest", desc := "(I)I" } : Jvm.MethodName) prog_6_method_4_code (3 : Nat) (Option.some Jvm.ClassFile.FieldType.int)) ∈ mm_gt := mm_in_gt 786 (by decide +kernel) rfl
theorem wd_787 : (Jvm.Cond.methodLink "LessonCards$Evening" (52 : Nat) ({ cls := "LessonCards$Evening", name := "fits", desc := "(II)Z" } : Jvm.MethodName)) ∈ mm_gt := mm_in_gt 787 (by decide +kernel) rfl
theorem wd_789 : (Jvm.Cond.instanceMethod ({ cls := "LessonCards$Evening", name := "fits", desc := "(II)Z" } : Jvm.MethodName)) ∈ mm_gt := mm_in_gt 789 (by decide +kernel) rfl
theorem wd_790 : (Jvm.Cond.code ({ cls := "LessonCards$Evening", name := "fits", desc := "(II)Z" } : Jvm.MethodName) prog_6_method_5_code (6 : Nat) (Option.some Jvm.ClassFile.FieldType.boolean)) ∈ mm_gt := mm_in_gt 790 (by decide +kernel) rfl
theorem wd_791 : (Jvm.Cond.methodLink "LessonCards$Evening" (56 : Nat) ({ cls := "LessonCards$Evening", name := "putOn", desc := "(II)V" } : Jvm.MethodName)) ∈ mm_gt := mm_in_gt 791 (by decide +kernel) rfl
theorem wd_793 : (Jvm.Cond.instanceMethod ({ cls := "LessonCards$Evening", name := "putOn", desc := "(II)V" } : Jvm.MethodName)) ∈ mm_gt := mm_in_gt 793 (by decide +kernel) rfl
theorem wd_794 : (Jvm.Cond.code ({ cls := "LessonCards$Evening", name := "putOn", desc := "(II)V" } : Jvm.MethodName) prog_6_method_6_code (3 : Nat) (Option.none : Option Jvm.ClassFile.FieldType)) ∈ mm_gt := mm_in_gt 794 (by decide +kernel) rfl
theorem wd_795 : (Jvm.Cond.methodLink "LessonCardsLaw" (94 : Nat) ({ cls := "LessonCards", name := "load", desc := "(I)I" } : Jvm.MethodName)) ∈ mm_gt := mm_in_gt 795 (by decide +kernel) rfl
theorem wd_796 : (Jvm.Cond.instanceMethod ({ cls := "LessonCards", name := "load", desc := "(I)I" } : Jvm.MethodName)) ∈ mm_gt := mm_in_gt 796 (by decide +kernel) rfl
theorem wd_797 : (Jvm.Cond.selects "LessonCards" ({ cls := "LessonCards", name := "load", desc := "(I)I" } : Jvm.MethodName) ({ cls := "LessonCards", name := "load", desc := "(I)I" } : Jvm.MethodName)) ∈ mm_gt := mm_in_gt 797 (by decide +kernel) rfl
theorem wd_798 : (Jvm.Cond.code ({ cls := "LessonCards", name := "load", desc := "(I)I" } : Jvm.MethodName) prog_1_method_21_code (2 : Nat) (Option.some Jvm.ClassFile.FieldType.int)) ∈ mm_gt := mm_in_gt 798 (by decide +kernel) rfl
theorem wd_799 : (Jvm.Cond.methodLink "LessonCards" (249 : Nat) ({ cls := "LessonCards$Evening", name := "loadOn", desc := "(I)I" } : Jvm.MethodName)) ∈ mm_gt := mm_in_gt 799 (by decide +kernel) rfl
theorem wd_800 : (Jvm.Cond.instanceMethod ({ cls := "LessonCards$Evening", name := "loadOn", desc := "(I)I" } : Jvm.MethodName)) ∈ mm_gt := mm_in_gt 800 (by decide +kernel) rfl
theorem wd_801 : (Jvm.Cond.selects "LessonCards$Evening" ({ cls := "LessonCards$Evening", name := "loadOn", desc := "(I)I" } : Jvm.MethodName) ({ cls := "LessonCards$Evening", name := "loadOn", desc := "(I)I" } : Jvm.MethodName)) ∈ mm_gt := mm_in_gt 801 (by decide +kernel) rfl
theorem wd_802 : (Jvm.Cond.code ({ cls := "LessonCards$Evening", name := "loadOn", desc := "(I)I" } : Jvm.MethodName) prog_6_method_7_code (2 : Nat) (Option.some Jvm.ClassFile.FieldType.int)) ∈ mm_gt := mm_in_gt 802 (by decide +kernel) rfl
theorem wd_803 : (Jvm.Cond.methodLink "LessonCardsLaw" (98 : Nat) ({ cls := "LessonCards", name := "put", desc := "(II)I" } : Jvm.MethodName)) ∈ mm_gt := mm_in_gt 803 (by decide +kernel) rfl
theorem wd_804 : (Jvm.Cond.instanceMethod ({ cls := "LessonCards", name := "put", desc := "(II)I" } : Jvm.MethodName)) ∈ mm_gt := mm_in_gt 804 (by decide +kernel) rfl
theorem wd_805 : (Jvm.Cond.selects "LessonCards" ({ cls := "LessonCards", name := "put", desc := "(II)I" } : Jvm.MethodName) ({ cls := "LessonCards", name := "put", desc := "(II)I" } : Jvm.MethodName)) ∈ mm_gt := mm_in_gt 805 (by decide +kernel) rfl
theorem wd_806 : (Jvm.Cond.code ({ cls := "LessonCards", name := "put", desc := "(II)I" } : Jvm.MethodName) prog_1_method_22_code (3 : Nat) (Option.some Jvm.ClassFile.FieldType.int)) ∈ mm_gt := mm_in_gt 806 (by decide +kernel) rfl
theorem wd_807 : (Jvm.Cond.methodLink "LessonCards" (252 : Nat) ({ cls := "LessonCards$Evening", name := "dayOf", desc := "(I)I" } : Jvm.MethodName)) ∈ mm_gt := mm_in_gt 807 (by decide +kernel) rfl
theorem wd_808 : (Jvm.Cond.instanceMethod ({ cls := "LessonCards$Evening", name := "dayOf", desc := "(I)I" } : Jvm.MethodName)) ∈ mm_gt := mm_in_gt 808 (by decide +kernel) rfl
theorem wd_809 : (Jvm.Cond.selects "LessonCards$Evening" ({ cls := "LessonCards$Evening", name := "dayOf", desc := "(I)I" } : Jvm.MethodName) ({ cls := "LessonCards$Evening", name := "dayOf", desc := "(I)I" } : Jvm.MethodName)) ∈ mm_gt := mm_in_gt 809 (by decide +kernel) rfl
theorem wd_810 : (Jvm.Cond.code ({ cls := "LessonCards$Evening", name := "dayOf", desc := "(I)I" } : Jvm.MethodName) prog_6_method_8_code (2 : Nat) (Option.some Jvm.ClassFile.FieldType.int)) ∈ mm_gt := mm_in_gt 810 (by decide +kernel) rfl
theorem wd_811 : (Jvm.Cond.methodLink "LessonCardsLaw" (102 : Nat) ({ cls := "LessonCards", name := "test", desc := "(III)I" } : Jvm.MethodName)) ∈ mm_gt := mm_in_gt 811 (by decide +kernel) rfl
theorem wd_812 : (Jvm.Cond.instanceMethod ({ cls := "LessonCards", name := "test", desc := "(III)I" } : Jvm.MethodName)) ∈ mm_gt := mm_in_gt 812 (by decide +kernel) rfl
theorem wd_813 : (Jvm.Cond.selects "LessonCards" ({ cls := "LessonCards", name := "test", desc := "(III)I" } : Jvm.MethodName) ({ cls := "LessonCards", name := "test", desc := "(III)I" } : Jvm.MethodName)) ∈ mm_gt := mm_in_gt 813 (by decide +kernel) rfl
theorem wd_814 : (Jvm.Cond.code ({ cls := "LessonCards", name := "test", desc := "(III)I" } : Jvm.MethodName) prog_1_method_23_code (4 : Nat) (Option.some Jvm.ClassFile.FieldType.int)) ∈ mm_gt := mm_in_gt 814 (by decide +kernel) rfl
theorem wd_815 : (Jvm.Cond.methodLink "LessonCards" (255 : Nat) ({ cls := "LessonCards$LevelTest", name := "begin", desc := "(III)V" } : Jvm.MethodName)) ∈ mm_gt := mm_in_gt 815 (by decide +kernel) rfl
theorem wd_816 : (Jvm.Cond.instanceMethod ({ cls := "LessonCards$LevelTest", name := "begin", desc := "(III)V" } : Jvm.MethodName)) ∈ mm_gt := mm_in_gt 816 (by decide +kernel) rfl
theorem wd_817 : (Jvm.Cond.selects "LessonCards$LevelTest" ({ cls := "LessonCards$LevelTest", name := "begin", desc := "(III)V" } : Jvm.MethodName) ({ cls := "LessonCards$LevelTest", name := "begin", desc := "(III)V" } : Jvm.MethodName)) ∈ mm_gt := mm_in_gt 817 (by decide +kernel) rfl
theorem wd_818 : (Jvm.Cond.code ({ cls := "LessonCards$LevelTest", name := "begin", desc := "(III)V" } : Jvm.MethodName) prog_9_method_2_code (5 : Nat) (Option.none : Option Jvm.ClassFile.FieldType)) ∈ mm_gt := mm_in_gt 818 (by decide +kernel) rfl
theorem wd_819 : (Jvm.Cond.methodLink "LessonCards$LevelTest" (19 : Nat) ({ cls := "java/lang/Math", name := "min", desc := "(II)I" } : Jvm.MethodName)) ∈ mm_gt := mm_in_gt 819 (by decide +kernel) rfl
theorem wd_820 : (Jvm.Cond.methodLink "LessonCards" (259 : Nat) ({ cls := "LessonCards$LevelTest", name := "bestQuestion", desc := "()I" } : Jvm.MethodName)) ∈ mm_gt := mm_in_gt 820 (by decide +kernel) rfl
theorem wd_821 : (Jvm.Cond.instanceMethod ({ cls := "LessonCards$LevelTest", name := "bestQuestion", desc := "()I" } : Jvm.MethodName)) ∈ mm_gt := mm_in_gt 821 (by decide +kernel) rfl
theorem wd_822 : (Jvm.Cond.selects "LessonCards$LevelTest" ({ cls := "LessonCards$LevelTest", name := "bestQuestion", desc := "()I" } : Jvm.MethodName) ({ cls := "LessonCards$LevelTest", name := "bestQuestion", desc := "()I" } : Jvm.MethodName)) ∈ mm_gt := mm_in_gt 822 (by decide +kernel) rfl
theorem wd_823 : (Jvm.Cond.code ({ cls := "LessonCards$LevelTest", name := "bestQuestion", desc := "()I" } : Jvm.MethodName) prog_9_method_5_code (7 : Nat) (Option.some Jvm.ClassFile.FieldType.int)) ∈ mm_gt := mm_in_gt 823 (by decide +kernel) rfl
theorem wd_824 : (Jvm.Cond.methodLink "LessonCards$LevelTest" (40 : Nat) ({ cls := "LessonCards$LevelTest", name := "greatestBehind", desc := "(IZ)J" } : Jvm.MethodName)) ∈ mm_gt := mm_in_gt 824 (by decide +kernel) rfl
theorem wd_826 : (Jvm.Cond.instanceMethod ({ cls := "LessonCards$LevelTest", name := "greatestBehind", desc := "(IZ)J" } : Jvm.MethodName)) ∈ mm_gt := mm_in_gt 826 (by decide +kernel) rfl
theorem wd_827 : (Jvm.Cond.code ({ cls := "LessonCards$LevelTest", name := "greatestBehind", desc := "(IZ)J" } : Jvm.MethodName) prog_9_method_6_code (6 : Nat) (Option.some Jvm.ClassFile.FieldType.long)) ∈ mm_gt := mm_in_gt 827 (by decide +kernel) rfl
theorem wd_828 : (Jvm.Cond.methodLink "LessonCards$LevelTest" (44 : Nat) ({ cls := "LessonCards$LevelTest", name := "factorOf", desc := "(IIZ)I" } : Jvm.MethodName)) ∈ mm_gt := mm_in_gt 828 (by decide +kernel) rfl
theorem wd_830 : (Jvm.Cond.instanceMethod ({ cls := "LessonCards$LevelTest", name := "factorOf", desc := "(IIZ)I" } : Jvm.MethodName)) ∈ mm_gt := mm_in_gt 830 (by decide +kernel) rfl
theorem wd_831 : (Jvm.Cond.code ({ cls := "LessonCards$LevelTest", name := "factorOf", desc := "(IIZ)I" } : Jvm.MethodName) prog_9_method_7_code (4 : Nat) (Option.some Jvm.ClassFile.FieldType.int)) ∈ mm_gt := mm_in_gt 831 (by decide +kernel) rfl
theorem wd_832 : (Jvm.Cond.methodLink "LessonCards$LevelTest" (48 : Nat) ({ cls := "java/lang/Math", name := "max", desc := "(JJ)J" } : Jvm.MethodName)) ∈ mm_gt := mm_in_gt 832 (by decide +kernel) rfl
theorem wd_833 : (Jvm.Cond.methodLink "LessonCardsLaw" (106 : Nat) ({ cls := "LessonCards", name := "told", desc := "(II)I" } : Jvm.MethodName)) ∈ mm_gt := mm_in_gt 833 (by decide +kernel) rfl
theorem wd_834 : (Jvm.Cond.instanceMethod ({ cls := "LessonCards", name := "told", desc := "(II)I" } : Jvm.MethodName)) ∈ mm_gt := mm_in_gt 834 (by decide +kernel) rfl
theorem wd_835 : (Jvm.Cond.selects "LessonCards" ({ cls := "LessonCards", name := "told", desc := "(II)I" } : Jvm.MethodName) ({ cls := "LessonCards", name := "told", desc := "(II)I" } : Jvm.MethodName)) ∈ mm_gt := mm_in_gt 835 (by decide +kernel) rfl
theorem wd_836 : (Jvm.Cond.code ({ cls := "LessonCards", name := "told", desc := "(II)I" } : Jvm.MethodName) prog_1_method_24_code (3 : Nat) (Option.some Jvm.ClassFile.FieldType.int)) ∈ mm_gt := mm_in_gt 836 (by decide +kernel) rfl
theorem wd_837 : (Jvm.Cond.methodLink "LessonCards" (268 : Nat) ({ cls := "LessonCards$LevelTest", name := "hear", desc := "(IZ)V" } : Jvm.MethodName)) ∈ mm_gt := mm_in_gt 837 (by decide +kernel) rfl
theorem wd_838 : (Jvm.Cond.instanceMethod ({ cls := "LessonCards$LevelTest", name := "hear", desc := "(IZ)V" } : Jvm.MethodName)) ∈ mm_gt := mm_in_gt 838 (by decide +kernel) rfl
theorem wd_839 : (Jvm.Cond.selects "LessonCards$LevelTest" ({ cls := "LessonCards$LevelTest", name := "hear", desc := "(IZ)V" } : Jvm.MethodName) ({ cls := "LessonCards$LevelTest", name := "hear", desc := "(IZ)V" } : Jvm.MethodName)) ∈ mm_gt := mm_in_gt 839 (by decide +kernel) rfl
theorem wd_840 : (Jvm.Cond.code ({ cls := "LessonCards$LevelTest", name := "hear", desc := "(IZ)V" } : Jvm.MethodName) prog_9_method_8_code (6 : Nat) (Option.none : Option Jvm.ClassFile.FieldType)) ∈ mm_gt := mm_in_gt 840 (by decide +kernel) rfl
theorem wd_841 : (Jvm.Cond.methodLink "LessonCards$LevelTest" (52 : Nat) ({ cls := "LessonCards$LevelTest", name := "commonDivisor", desc := "(JJ)J" } : Jvm.MethodName)) ∈ mm_gt := mm_in_gt 841 (by decide +kernel) rfl
theorem wd_842 : (Jvm.Cond.static ({ cls := "LessonCards$LevelTest", name := "commonDivisor", desc := "(JJ)J" } : Jvm.MethodName)) ∈ mm_gt := mm_in_gt 842 (by decide +kernel) rfl
theorem wd_843 : (Jvm.Cond.code ({ cls := "LessonCards$LevelTest", name := "commonDivisor", desc := "(JJ)J" } : Jvm.MethodName) prog_9_method_9_code (11 : Nat) (Option.some Jvm.ClassFile.FieldType.long)) ∈ mm_gt := mm_in_gt 843 (by decide +kernel) rfl
theorem wd_844 : (Jvm.Cond.methodLink "LessonCards$LevelTest" (55 : Nat) ({ cls := "LessonCards$LevelTest", name := "isClear", desc := "()Z" } : Jvm.MethodName)) ∈ mm_gt := mm_in_gt 844 (by decide +kernel) rfl
theorem wd_846 : (Jvm.Cond.instanceMethod ({ cls := "LessonCards$LevelTest", name := "isClear", desc := "()Z" } : Jvm.MethodName)) ∈ mm_gt := mm_in_gt 846 (by decide +kernel) rfl
theorem wd_847 : (Jvm.Cond.code ({ cls := "LessonCards$LevelTest", name := "isClear", desc := "()Z" } : Jvm.MethodName) prog_9_method_10_code (6 : Nat) (Option.some Jvm.ClassFile.FieldType.boolean)) ∈ mm_gt := mm_in_gt 847 (by decide +kernel) rfl
theorem wd_848 : (Jvm.Cond.constantLong "LessonCards$LevelTest" (59 : Nat) (9 : Int64)) ∈ mm_gt := mm_in_gt 848 (by decide +kernel) rfl
theorem wd_849 : (Jvm.Cond.methodLink "LessonCardsLaw" (110 : Nat) ({ cls := "LessonCards", name := "weight", desc := "(I)J" } : Jvm.MethodName)) ∈ mm_gt := mm_in_gt 849 (by decide +kernel) rfl
theorem wd_850 : (Jvm.Cond.instanceMethod ({ cls := "LessonCards", name := "weight", desc := "(I)J" } : Jvm.MethodName)) ∈ mm_gt := mm_in_gt 850 (by decide +kernel) rfl
theorem wd_851 : (Jvm.Cond.selects "LessonCards" ({ cls := "LessonCards", name := "weight", desc := "(I)J" } : Jvm.MethodName) ({ cls := "LessonCards", name := "weight", desc := "(I)J" } : Jvm.MethodName)) ∈ mm_gt := mm_in_gt 851 (by decide +kernel) rfl
theorem wd_852 : (Jvm.Cond.code ({ cls := "LessonCards", name := "weight", desc := "(I)J" } : Jvm.MethodName) prog_1_method_25_code (2 : Nat) (Option.some Jvm.ClassFile.FieldType.long)) ∈ mm_gt := mm_in_gt 852 (by decide +kernel) rfl
theorem wd_853 : (Jvm.Cond.methodLink "LessonCards" (272 : Nat) ({ cls := "LessonCards$LevelTest", name := "weightOf", desc := "(I)J" } : Jvm.MethodName)) ∈ mm_gt := mm_in_gt 853 (by decide +kernel) rfl
theorem wd_854 : (Jvm.Cond.instanceMethod ({ cls := "LessonCards$LevelTest", name := "weightOf", desc := "(I)J" } : Jvm.MethodName)) ∈ mm_gt := mm_in_gt 854 (by decide +kernel) rfl
theorem wd_855 : (Jvm.Cond.selects "LessonCards$LevelTest" ({ cls := "LessonCards$LevelTest", name := "weightOf", desc := "(I)J" } : Jvm.MethodName) ({ cls := "LessonCards$LevelTest", name := "weightOf", desc := "(I)J" } : Jvm.MethodName)) ∈ mm_gt := mm_in_gt 855 (by decide +kernel) rfl
theorem wd_856 : (Jvm.Cond.code ({ cls := "LessonCards$LevelTest", name := "weightOf", desc := "(I)J" } : Jvm.MethodName) prog_9_method_3_code (2 : Nat) (Option.some Jvm.ClassFile.FieldType.long)) ∈ mm_gt := mm_in_gt 856 (by decide +kernel) rfl
theorem wd_857 : (Jvm.Cond.constantLong "LessonCards$LevelTest" (38 : Nat) (-1 : Int64)) ∈ mm_gt := mm_in_gt 857 (by decide +kernel) rfl
theorem wd_858 : (Jvm.Cond.methodLink "LessonCardsLaw" (115 : Nat) ({ cls := "LessonCards", name := "level", desc := "()I" } : Jvm.MethodName)) ∈ mm_gt := mm_in_gt 858 (by decide +kernel) rfl
theorem wd_859 : (Jvm.Cond.instanceMethod ({ cls := "LessonCards", name := "level", desc := "()I" } : Jvm.MethodName)) ∈ mm_gt := mm_in_gt 859 (by decide +kernel) rfl
theorem wd_860 : (Jvm.Cond.selects "LessonCards" ({ cls := "LessonCards", name := "level", desc := "()I" } : Jvm.MethodName) ({ cls := "LessonCards", name := "level", desc := "()I" } : Jvm.MethodName)) ∈ mm_gt := mm_in_gt 860 (by decide +kernel) rfl
theorem wd_861 : (Jvm.Cond.code ({ cls := "LessonCards", name := "level", desc := "()I" } : Jvm.MethodName) prog_1_method_26_code (1 : Nat) (Option.some Jvm.ClassFile.FieldType.int)) ∈ mm_gt := mm_in_gt 861 (by decide +kernel) rfl
theorem wd_862 : (Jvm.Cond.methodLink "LessonCards" (276 : Nat) ({ cls := "LessonCards$LevelTest", name := "likeliest", desc := "()I" } : Jvm.MethodName)) ∈ mm_gt := mm_in_gt 862 (by decide +kernel) rfl
theorem wd_863 : (Jvm.Cond.instanceMethod ({ cls := "LessonCards$LevelTest", name := "likeliest", desc := "()I" } : Jvm.MethodName)) ∈ mm_gt := mm_in_gt 863 (by decide +kernel) rfl
theorem wd_864 : (Jvm.Cond.selects "LessonCards$LevelTest" ({ cls := "LessonCards$LevelTest", name := "likeliest", desc := "()I" } : Jvm.MethodName) ({ cls := "LessonCards$LevelTest", name := "likeliest", desc := "()I" } : Jvm.MethodName)) ∈ mm_gt := mm_in_gt 864 (by decide +kernel) rfl
theorem wd_865 : (Jvm.Cond.code ({ cls := "LessonCards$LevelTest", name := "likeliest", desc := "()I" } : Jvm.MethodName) prog_9_method_4_code (5 : Nat) (Option.some Jvm.ClassFile.FieldType.int)) ∈ mm_gt := mm_in_gt 865 (by decide +kernel) rfl
theorem wd_866 : (Jvm.Cond.methodLink "LessonCardsLaw" (119 : Nat) ({ cls := "LessonCards", name := "log", desc := "()I" } : Jvm.MethodName)) ∈ mm_gt := mm_in_gt 866 (by decide +kernel) rfl
theorem wd_867 : (Jvm.Cond.instanceMethod ({ cls := "LessonCards", name := "log", desc := "()I" } : Jvm.MethodName)) ∈ mm_gt := mm_in_gt 867 (by decide +kernel) rfl
theorem wd_868 : (Jvm.Cond.selects "LessonCards" ({ cls := "LessonCards", name := "log", desc := "()I" } : Jvm.MethodName) ({ cls := "LessonCards", name := "log", desc := "()I" } : Jvm.MethodName)) ∈ mm_gt := mm_in_gt 868 (by decide +kernel) rfl
theorem wd_869 : (Jvm.Cond.code ({ cls := "LessonCards", name := "log", desc := "()I" } : Jvm.MethodName) prog_1_method_27_code (1 : Nat) (Option.some Jvm.ClassFile.FieldType.int)) ∈ mm_gt := mm_in_gt 869 (by decide +kernel) rfl
theorem wd_870 : (Jvm.Cond.methodLink "LessonCardsLaw" (123 : Nat) ({ cls := "LessonCards", name := "logged", desc := "(II)I" } : Jvm.MethodName)) ∈ mm_gt := mm_in_gt 870 (by decide +kernel) rfl
theorem wd_871 : (Jvm.Cond.instanceMethod ({ cls := "LessonCards", name := "logged", desc := "(II)I" } : Jvm.MethodName)) ∈ mm_gt := mm_in_gt 871 (by decide +kernel) rfl
theorem wd_872 : (Jvm.Cond.selects "LessonCards" ({ cls := "LessonCards", name := "logged", desc := "(II)I" } : Jvm.MethodName) ({ cls := "LessonCards", name := "logged", desc := "(II)I" } : Jvm.MethodName)) ∈ mm_gt := mm_in_gt 872 (by decide +kernel) rfl
theorem wd_873 : (Jvm.Cond.code ({ cls := "LessonCards", name := "logged", desc := "(II)I" } : Jvm.MethodName) prog_1_method_28_code (3 : Nat) (Option.some Jvm.ClassFile.FieldType.int)) ∈ mm_gt := mm_in_gt 873 (by decide +kernel) rfl
theorem wd_874 : (Jvm.Cond.methodLink "LessonCards" (279 : Nat) ({ cls := "java/util/ArrayList", name := "get", desc := "(I)Ljava/lang/Object;" } : Jvm.MethodName)) ∈ mm_gt := mm_in_gt 874 (by decide +kernel) rfl
theorem wd_875 : (Jvm.Cond.methodLink "LessonCards" (282 : Nat) ({ cls := "LessonCards$Entry", name := "tell", desc := "(I)I" } : Jvm.MethodName)) ∈ mm_gt := mm_in_gt 875 (by decide +kernel) rfl
theorem wd_876 : (Jvm.Cond.instanceMethod ({ cls := "LessonCards$Entry", name := "tell", desc := "(I)I" } : Jvm.MethodName)) ∈ mm_gt := mm_in_gt 876 (by decide +kernel) rfl
theorem wd_877 : (Jvm.Cond.selects "LessonCards$Entry" ({ cls := "LessonCards$Entry", name := "tell", desc := "(I)I" } : Jvm.MethodName) ({ cls := "LessonCards$Entry", name := "tell", desc := "(I)I" } : Jvm.MethodName)) ∈ mm_gt := mm_in_gt 877 (by decide +kernel) rfl
theorem wd_878 : (Jvm.Cond.code ({ cls := "LessonCards$Entry", name := "tell", desc := "(I)I" } : Jvm.MethodName) prog_5_method_2_code (2 : Nat) (Option.some Jvm.ClassFile.FieldType.int)) ∈ mm_gt := mm_in_gt 878 (by decide +kernel) rfl
theorem wd_879 : (Jvm.Cond.methodLink "LessonCardsLaw" (127 : Nat) ({ cls := "LessonCards", name := "surprise", desc := "(II)J" } : Jvm.MethodName)) ∈ mm_gt := mm_in_gt 879 (by decide +kernel) rfl
theorem wd_880 : (Jvm.Cond.instanceMethod ({ cls := "LessonCards", name := "surprise", desc := "(II)J" } : Jvm.MethodName)) ∈ mm_gt := mm_in_gt 880 (by decide +kernel) rfl
theorem wd_881 : (Jvm.Cond.selects "LessonCards" ({ cls := "LessonCards", name := "surprise", desc := "(II)J" } : Jvm.MethodName) ({ cls := "LessonCards", name := "surprise", desc := "(II)J" } : Jvm.MethodName)) ∈ mm_gt := mm_in_gt 881 (by decide +kernel) rfl
theorem wd_882 : (Jvm.Cond.code ({ cls := "LessonCards", name := "surprise", desc := "(II)J" } : Jvm.MethodName) prog_1_method_29_code (3 : Nat) (Option.some Jvm.ClassFile.FieldType.long)) ∈ mm_gt := mm_in_gt 882 (by decide +kernel) rfl
theorem wd_883 : (Jvm.Cond.constantLong "LessonCards" (283 : Nat) (-1 : Int64)) ∈ mm_gt := mm_in_gt 883 (by decide +kernel) rfl
theorem wd_884 : (Jvm.Cond.methodLink "LessonCards" (285 : Nat) ({ cls := "LessonCards", name := "retell", desc := "(II)J" } : Jvm.MethodName)) ∈ mm_gt := mm_in_gt 884 (by decide +kernel) rfl
theorem wd_886 : (Jvm.Cond.instanceMethod ({ cls := "LessonCards", name := "retell", desc := "(II)J" } : Jvm.MethodName)) ∈ mm_gt := mm_in_gt 886 (by decide +kernel) rfl
theorem wd_887 : (Jvm.Cond.code ({ cls := "LessonCards", name := "retell", desc := "(II)J" } : Jvm.MethodName) prog_1_method_39_code (9 : Nat) (Option.some Jvm.ClassFile.FieldType.long)) ∈ mm_gt := mm_in_gt 887 (by decide +kernel) rfl
theorem wd_888 : (Jvm.Cond.methodLink "LessonCards" (303 : Nat) ({ cls := "LessonCards$Learner", name := "forgetAll", desc := "()V" } : Jvm.MethodName)) ∈ mm_gt := mm_in_gt 888 (by decide +kernel) rfl
theorem wd_889 : (Jvm.Cond.instanceMethod ({ cls := "LessonCards$Learner", name := "forgetAll", desc := "()V" } : Jvm.MethodName)) ∈ mm_gt := mm_in_gt 889 (by decide +kernel) rfl
theorem wd_890 : (Jvm.Cond.selects "LessonCards$Learner" ({ cls := "LessonCards$Learner", name := "forgetAll", desc := "()V" } : Jvm.MethodName) ({ cls := "LessonCards$Learner", name := "forgetAll", desc := "()V" } : Jvm.MethodName)) ∈ mm_gt := mm_in_gt 890 (by decide +kernel) rfl
theorem wd_891 : (Jvm.Cond.code ({ cls := "LessonCards$Learner", name := "forgetAll", desc := "()V" } : Jvm.MethodName) prog_8_method_7_code (2 : Nat) (Option.none : Option Jvm.ClassFile.FieldType)) ∈ mm_gt := mm_in_gt 891 (by decide +kernel) rfl
theorem wd_892 : (Jvm.Cond.methodLink "LessonCards$Learner" (57 : Nat) ({ cls := "LessonCards$Hand", name := "forgetAll", desc := "()V" } : Jvm.MethodName)) ∈ mm_gt := mm_in_gt 892 (by decide +kernel) rfl
theorem wd_893 : (Jvm.Cond.instanceMethod ({ cls := "LessonCards$Hand", name := "forgetAll", desc := "()V" } : Jvm.MethodName)) ∈ mm_gt := mm_in_gt 893 (by decide +kernel) rfl
theorem wd_894 : (Jvm.Cond.selects "LessonCards$Hand" ({ cls := "LessonCards$Hand", name := "forgetAll", desc := "()V" } : Jvm.MethodName) ({ cls := "LessonCards$Hand", name := "forgetAll", desc := "()V" } : Jvm.MethodName)) ∈ mm_gt := mm_in_gt 894 (by decide +kernel) rfl
theorem wd_895 : (Jvm.Cond.code ({ cls := "LessonCards$Hand", name := "forgetAll", desc := "()V" } : Jvm.MethodName) prog_7_method_4_code (2 : Nat) (Option.none : Option Jvm.ClassFile.FieldType)) ∈ mm_gt := mm_in_gt 895 (by decide +kernel) rfl
theorem wd_896 : (Jvm.Cond.methodLink "LessonCards$Hand" (30 : Nat) ({ cls := "LessonCards$Memory", name := "forget", desc := "()V" } : Jvm.MethodName)) ∈ mm_gt := mm_in_gt 896 (by decide +kernel) rfl
theorem wd_897 : (Jvm.Cond.instanceMethod ({ cls := "LessonCards$Memory", name := "forget", desc := "()V" } : Jvm.MethodName)) ∈ mm_gt := mm_in_gt 897 (by decide +kernel) rfl
theorem wd_898 : (Jvm.Cond.selects "LessonCards$Memory" ({ cls := "LessonCards$Memory", name := "forget", desc := "()V" } : Jvm.MethodName) ({ cls := "LessonCards$Memory", name := "forget", desc := "()V" } : Jvm.MethodName)) ∈ mm_gt := mm_in_gt 898 (by decide +kernel) rfl
theorem wd_899 : (Jvm.Cond.code ({ cls := "LessonCards$Memory", name := "forget", desc := "()V" } : Jvm.MethodName) prog_10_method_4_code (1 : Nat) (Option.none : Option Jvm.ClassFile.FieldType)) ∈ mm_gt := mm_in_gt 899 (by decide +kernel) rfl
theorem wd_900 : (Jvm.Cond.methodLink "LessonCards" (306 : Nat) ({ cls := "LessonCards$Memory", name := "isFresh", desc := "()Z" } : Jvm.MethodName)) ∈ mm_gt := mm_in_gt 900 (by decide +kernel) rfl
theorem wd_901 : (Jvm.Cond.methodLink "LessonCards" (315 : Nat) ({ cls := "LessonCards", name := "retellOne", desc := "(LLessonCards$Memory;LLessonCards$Entry;I)V" } : Jvm.MethodName)) ∈ mm_gt := mm_in_gt 901 (by decide +kernel) rfl
theorem wd_903 : (Jvm.Cond.instanceMethod ({ cls := "LessonCards", name := "retellOne", desc := "(LLessonCards$Memory;LLessonCards$Entry;I)V" } : Jvm.MethodName)) ∈ mm_gt := mm_in_gt 903 (by decide +kernel) rfl
theorem wd_904 : (Jvm.Cond.code ({ cls := "LessonCards", name := "retellOne", desc := "(LLessonCards$Memory;LLessonCards$Entry;I)V" } : Jvm.MethodName) prog_1_method_40_code (4 : Nat) (Option.none : Option Jvm.ClassFile.FieldType)) ∈ mm_gt := mm_in_gt 904 (by decide +kernel) rfl
theorem wd_905 : (Jvm.Cond.methodLink "LessonCardsLaw" (132 : Nat) ({ cls := "LessonCards", name := "better", desc := "(I)I" } : Jvm.MethodName)) ∈ mm_gt := mm_in_gt 905 (by decide +kernel) rfl
theorem wd_906 : (Jvm.Cond.instanceMethod ({ cls := "LessonCards", name := "better", desc := "(I)I" } : Jvm.MethodName)) ∈ mm_gt := mm_in_gt 906 (by decide +kernel) rfl
theorem wd_907 : (Jvm.Cond.selects "LessonCards" ({ cls := "LessonCards", name := "better", desc := "(I)I" } : Jvm.MethodName) ({ cls := "LessonCards", name := "better", desc := "(I)I" } : Jvm.MethodName)) ∈ mm_gt := mm_in_gt 907 (by decide +kernel) rfl
theorem wd_908 : (Jvm.Cond.code ({ cls := "LessonCards", name := "better", desc := "(I)I" } : Jvm.MethodName) prog_1_method_30_code (8 : Nat) (Option.some Jvm.ClassFile.FieldType.int)) ∈ mm_gt := mm_in_gt 908 (by decide +kernel) rfl
theorem wd_909 : (Jvm.Cond.methodLink "LessonCardsLaw" (136 : Nat) ({ cls := "LessonCards", name := "other", desc := "(IIII)I" } : Jvm.MethodName)) ∈ mm_gt := mm_in_gt 909 (by decide +kernel) rfl
theorem wd_910 : (Jvm.Cond.instanceMethod ({ cls := "LessonCards", name := "other", desc := "(IIII)I" } : Jvm.MethodName)) ∈ mm_gt := mm_in_gt 910 (by decide +kernel) rfl
theorem wd_911 : (Jvm.Cond.selects "LessonCards" ({ cls := "LessonCards", name := "other", desc := "(IIII)I" } : Jvm.MethodName) ({ cls := "LessonCards", name := "other", desc := "(IIII)I" } : Jvm.MethodName)) ∈ mm_gt := mm_in_gt 911 (by decide +kernel) rfl
theorem wd_912 : (Jvm.Cond.code ({ cls := "LessonCards", name := "other", desc := "(IIII)I" } : Jvm.MethodName) prog_1_method_31_code (6 : Nat) (Option.some Jvm.ClassFile.FieldType.int)) ∈ mm_gt := mm_in_gt 912 (by decide +kernel) rfl
theorem wd_913 : (Jvm.Cond.methodLink "LessonCardsLaw" (140 : Nat) ({ cls := "LessonCards", name := "check", desc := "(I)I" } : Jvm.MethodName)) ∈ mm_gt := mm_in_gt 913 (by decide +kernel) rfl
theorem wd_914 : (Jvm.Cond.instanceMethod ({ cls := "LessonCards", name := "check", desc := "(I)I" } : Jvm.MethodName)) ∈ mm_gt := mm_in_gt 914 (by decide +kernel) rfl
theorem wd_915 : (Jvm.Cond.selects "LessonCards" ({ cls := "LessonCards", name := "check", desc := "(I)I" } : Jvm.MethodName) ({ cls := "LessonCards", name := "check", desc := "(I)I" } : Jvm.MethodName)) ∈ mm_gt := mm_in_gt 915 (by decide +kernel) rfl
theorem wd_916 : (Jvm.Cond.code ({ cls := "LessonCards", name := "check", desc := "(I)I" } : Jvm.MethodName) prog_1_method_32_code (3 : Nat) (Option.some Jvm.ClassFile.FieldType.int)) ∈ mm_gt := mm_in_gt 916 (by decide +kernel) rfl
theorem wd_917 : (Jvm.Cond.methodLink "LessonCards" (292 : Nat) ({ cls := "LessonCards$Learner", name := "isLike", desc := "(LLessonCards$Learner;)Z" } : Jvm.MethodName)) ∈ mm_gt := mm_in_gt 917 (by decide +kernel) rfl
theorem wd_918 : (Jvm.Cond.instanceMethod ({ cls := "LessonCards$Learner", name := "isLike", desc := "(LLessonCards$Learner;)Z" } : Jvm.MethodName)) ∈ mm_gt := mm_in_gt 918 (by decide +kernel) rfl
theorem wd_919 : (Jvm.Cond.selects "LessonCards$Learner" ({ cls := "LessonCards$Learner", name := "isLike", desc := "(LLessonCards$Learner;)Z" } : Jvm.MethodName) ({ cls := "LessonCards$Learner", name := "isLike", desc := "(LLessonCards$Learner;)Z" } : Jvm.MethodName)) ∈ mm_gt := mm_in_gt 919 (by decide +kernel) rfl
theorem wd_920 : (Jvm.Cond.code ({ cls := "LessonCards$Learner", name := "isLike", desc := "(LLessonCards$Learner;)Z" } : Jvm.MethodName) prog_8_method_8_code (4 : Nat) (Option.some Jvm.ClassFile.FieldType.boolean)) ∈ mm_gt := mm_in_gt 920 (by decide +kernel) rfl
theorem wd_921 : (Jvm.Cond.methodLink "LessonCards$Learner" (60 : Nat) ({ cls := "LessonCards$Hand", name := "isLike", desc := "(LLessonCards$Hand;)Z" } : Jvm.MethodName)) ∈ mm_gt := mm_in_gt 921 (by decide +kernel) rfl
theorem wd_922 : (Jvm.Cond.instanceMethod ({ cls := "LessonCards$Hand", name := "isLike", desc := "(LLessonCards$Hand;)Z" } : Jvm.MethodName)) ∈ mm_gt := mm_in_gt 922 (by decide +kernel) rfl
theorem wd_923 : (Jvm.Cond.selects "LessonCards$Hand" ({ cls := "LessonCards$Hand", name := "isLike", desc := "(LLessonCards$Hand;)Z" } : Jvm.MethodName) ({ cls := "LessonCards$Hand", name := "isLike", desc := "(LLessonCards$Hand;)Z" } : Jvm.MethodName)) ∈ mm_gt := mm_in_gt 923 (by decide +kernel) rfl
theorem wd_924 : (Jvm.Cond.code ({ cls := "LessonCards$Hand", name := "isLike", desc := "(LLessonCards$Hand;)Z" } : Jvm.MethodName) prog_7_method_6_code (4 : Nat) (Option.some Jvm.ClassFile.FieldType.boolean)) ∈ mm_gt := mm_in_gt 924 (by decide +kernel) rfl
theorem wd_925 : (Jvm.Cond.methodLink "LessonCards$Hand" (36 : Nat) ({ cls := "LessonCards$Memory", name := "isLike", desc := "(LLessonCards$Memory;)Z" } : Jvm.MethodName)) ∈ mm_gt := mm_in_gt 925 (by decide +kernel) rfl
theorem wd_926 : (Jvm.Cond.instanceMethod ({ cls := "LessonCards$Memory", name := "isLike", desc := "(LLessonCards$Memory;)Z" } : Jvm.MethodName)) ∈ mm_gt := mm_in_gt 926 (by decide +kernel) rfl
theorem wd_927 : (Jvm.Cond.selects "LessonCards$Memory" ({ cls := "LessonCards$Memory", name := "isLike", desc := "(LLessonCards$Memory;)Z" } : Jvm.MethodName) ({ cls := "LessonCards$Memory", name := "isLike", desc := "(LLessonCards$Memory;)Z" } : Jvm.MethodName)) ∈ mm_gt := mm_in_gt 927 (by decide +kernel) rfl
theorem wd_928 : (Jvm.Cond.code ({ cls := "LessonCards$Memory", name := "isLike", desc := "(LLessonCards$Memory;)Z" } : Jvm.MethodName) prog_10_method_6_code (2 : Nat) (Option.some Jvm.ClassFile.FieldType.boolean)) ∈ mm_gt := mm_in_gt 928 (by decide +kernel) rfl
theorem wd_929 : (Jvm.Cond.classLink "LessonCardsLaw" (10 : Nat) "LessonCardsModel") ∈ mm_gt := mm_in_gt 929 (by decide +kernel) rfl
theorem wd_930 : (Jvm.Cond.instantiable "LessonCardsModel" (48 : Nat)) ∈ mm_gt := mm_in_gt 930 (by decide +kernel) rfl
theorem wd_931 : (Jvm.Cond.methodLink "LessonCardsLaw" (12 : Nat) ({ cls := "LessonCardsModel", name := "<init>", desc := "()V" } : Jvm.MethodName)) ∈ mm_gt := mm_in_gt 931 (by decide +kernel) rfl
theorem wd_932 : (Jvm.Cond.instanceMethod ({ cls := "LessonCardsModel", name := "<init>", desc := "()V" } : Jvm.MethodName)) ∈ mm_gt := mm_in_gt 932 (by decide +kernel) rfl
theorem wd_933 : (Jvm.Cond.code ({ cls := "LessonCardsModel", name := "<init>", desc := "()V" } : Jvm.MethodName) prog_12_method_1_code (2 : Nat) (Option.none : Option Jvm.ClassFile.FieldType)) ∈ mm_gt := mm_in_gt 933 (by decide +kernel) rfl
theorem wd_934 : (Jvm.Cond.methodLink "LessonCardsModel" (1 : Nat) ({ cls := "java/lang/Object", name := "<init>", desc := "()V" } : Jvm.MethodName)) ∈ mm_gt := mm_in_gt 934 (by decide +kernel) rfl
theorem wd_935 : (Jvm.Cond.fieldLink "LessonCardsModel" (9 : Nat) "LessonCardsModel" "sides" "[I") ∈ mm_gt := mm_in_gt 935 (by decide +kernel) rfl
theorem wd_936 : (Jvm.Cond.fieldLink "LessonCardsModel" (13 : Nat) "LessonCardsModel" "leans" "[I") ∈ mm_gt := mm_in_gt 936 (by decide +kernel) rfl
theorem wd_937 : (Jvm.Cond.fieldLink "LessonCardsModel" (16 : Nat) "LessonCardsModel" "leanMany" "[I") ∈ mm_gt := mm_in_gt 937 (by decide +kernel) rfl
theorem wd_938 : (Jvm.Cond.fieldLink "LessonCardsModel" (116 : Nat) "LessonCardsModel" "cards" "I") ∈ mm_gt := mm_in_gt 938 (by decide +kernel) rfl
theorem wd_939 : (Jvm.Cond.fieldLink "LessonCardsModel" (131 : Nat) "LessonCardsModel" "rule" "I") ∈ mm_gt := mm_in_gt 939 (by decide +kernel) rfl
theorem wd_940 : (Jvm.Cond.fieldLink "LessonCardsModel" (19 : Nat) "LessonCardsModel" "table" "[I") ∈ mm_gt := mm_in_gt 940 (by decide +kernel) rfl
theorem wd_941 : (Jvm.Cond.fieldLink "LessonCardsModel" (22 : Nat) "LessonCardsModel" "mostDue" "I") ∈ mm_gt := mm_in_gt 941 (by decide +kernel) rfl
theorem wd_942 : (Jvm.Cond.fieldLink "LessonCardsModel" (26 : Nat) "LessonCardsModel" "mostNew" "I") ∈ mm_gt := mm_in_gt 942 (by decide +kernel) rfl
theorem wd_943 : (Jvm.Cond.fieldLink "LessonCardsModel" (29 : Nat) "LessonCardsModel" "today" "[I") ∈ mm_gt := mm_in_gt 943 (by decide +kernel) rfl
theorem wd_944 : (Jvm.Cond.fieldLink "LessonCardsModel" (32 : Nat) "LessonCardsModel" "row" "[I") ∈ mm_gt := mm_in_gt 944 (by decide +kernel) rfl
theorem wd_945 : (Jvm.Cond.fieldLink "LessonCardsModel" (35 : Nat) "LessonCardsModel" "rowMany" "[I") ∈ mm_gt := mm_in_gt 945 (by decide +kernel) rfl
theorem wd_946 : (Jvm.Cond.fieldLink "LessonCardsModel" (38 : Nat) "LessonCardsModel" "again" "[I") ∈ mm_gt := mm_in_gt 946 (by decide +kernel) rfl
theorem wd_947 : (Jvm.Cond.fieldLink "LessonCardsModel" (41 : Nat) "LessonCardsModel" "buried" "[Z") ∈ mm_gt := mm_in_gt 947 (by decide +kernel) rfl
theorem wd_948 : (Jvm.Cond.fieldLink "LessonCardsModel" (45 : Nat) "LessonCardsModel" "strength" "[I") ∈ mm_gt := mm_in_gt 948 (by decide +kernel) rfl
theorem wd_949 : (Jvm.Cond.fieldLink "LessonCardsModel" (48 : Nat) "LessonCardsModel" "ease" "[I") ∈ mm_gt := mm_in_gt 949 (by decide +kernel) rfl
theorem wd_950 : (Jvm.Cond.fieldLink "LessonCardsModel" (51 : Nat) "LessonCardsModel" "box" "[I") ∈ mm_gt := mm_in_gt 950 (by decide +kernel) rfl
theorem wd_951 : (Jvm.Cond.fieldLink "LessonCardsModel" (54 : Nat) "LessonCardsModel" "day" "[I") ∈ mm_gt := mm_in_gt 951 (by decide +kernel) rfl
theorem wd_952 : (Jvm.Cond.fieldLink "LessonCardsModel" (57 : Nat) "LessonCardsModel" "agains" "[I") ∈ mm_gt := mm_in_gt 952 (by decide +kernel) rfl
theorem wd_953 : (Jvm.Cond.fieldLink "LessonCardsModel" (60 : Nat) "LessonCardsModel" "logOf" "[I") ∈ mm_gt := mm_in_gt 953 (by decide +kernel) rfl
theorem wd_954 : (Jvm.Cond.fieldLink "LessonCardsModel" (63 : Nat) "LessonCardsModel" "logDay" "[I") ∈ mm_gt := mm_in_gt 954 (by decide +kernel) rfl
theorem wd_955 : (Jvm.Cond.fieldLink "LessonCardsModel" (66 : Nat) "LessonCardsModel" "logAnswer" "[I") ∈ mm_gt := mm_in_gt 955 (by decide +kernel) rfl
theorem wd_956 : (Jvm.Cond.fieldLink "LessonCardsModel" (69 : Nat) "LessonCardsModel" "logRule" "[I") ∈ mm_gt := mm_in_gt 956 (by decide +kernel) rfl
theorem wd_957 : (Jvm.Cond.fieldLink "LessonCardsModel" (72 : Nat) "LessonCardsModel" "logTable" "[I") ∈ mm_gt := mm_in_gt 957 (by decide +kernel) rfl
theorem wd_958 : (Jvm.Cond.fieldLink "LessonCardsModel" (75 : Nat) "LessonCardsModel" "wasStrength" "[I") ∈ mm_gt := mm_in_gt 958 (by decide +kernel) rfl
theorem wd_959 : (Jvm.Cond.fieldLink "LessonCardsModel" (78 : Nat) "LessonCardsModel" "wasEase" "[I") ∈ mm_gt := mm_in_gt 959 (by decide +kernel) rfl
theorem wd_960 : (Jvm.Cond.fieldLink "LessonCardsModel" (81 : Nat) "LessonCardsModel" "wasBox" "[I") ∈ mm_gt := mm_in_gt 960 (by decide +kernel) rfl
theorem wd_961 : (Jvm.Cond.fieldLink "LessonCardsModel" (84 : Nat) "LessonCardsModel" "wasDay" "[I") ∈ mm_gt := mm_in_gt 961 (by decide +kernel) rfl
theorem wd_962 : (Jvm.Cond.fieldLink "LessonCardsModel" (87 : Nat) "LessonCardsModel" "wasAgains" "[I") ∈ mm_gt := mm_in_gt 962 (by decide +kernel) rfl
theorem wd_963 : (Jvm.Cond.fieldLink "LessonCardsModel" (207 : Nat) "LessonCardsModel" "log" "I") ∈ mm_gt := mm_in_gt 963 (by decide +kernel) rfl
theorem wd_964 : (Jvm.Cond.fieldLink "LessonCardsModel" (135 : Nat) "LessonCardsModel" "mStrength" "I") ∈ mm_gt := mm_in_gt 964 (by decide +kernel) rfl
theorem wd_965 : (Jvm.Cond.fieldLink "LessonCardsModel" (138 : Nat) "LessonCardsModel" "mEase" "I") ∈ mm_gt := mm_in_gt 965 (by decide +kernel) rfl
theorem wd_966 : (Jvm.Cond.fieldLink "LessonCardsModel" (141 : Nat) "LessonCardsModel" "mBox" "I") ∈ mm_gt := mm_in_gt 966 (by decide +kernel) rfl
theorem wd_967 : (Jvm.Cond.fieldLink "LessonCardsModel" (144 : Nat) "LessonCardsModel" "mDay" "I") ∈ mm_gt := mm_in_gt 967 (by decide +kernel) rfl
theorem wd_968 : (Jvm.Cond.fieldLink "LessonCardsModel" (147 : Nat) "LessonCardsModel" "mAgains" "I") ∈ mm_gt := mm_in_gt 968 (by decide +kernel) rfl
theorem wd_969 : (Jvm.Cond.fieldLink "LessonCardsModel" (90 : Nat) "LessonCardsModel" "first" "[I") ∈ mm_gt := mm_in_gt 969 (by decide +kernel) rfl
theorem wd_970 : (Jvm.Cond.fieldLink "LessonCardsModel" (93 : Nat) "LessonCardsModel" "putOn" "[I") ∈ mm_gt := mm_in_gt 970 (by decide +kernel) rfl
theorem wd_971 : (Jvm.Cond.fieldLink "LessonCardsModel" (96 : Nat) "LessonCardsModel" "load" "[I") ∈ mm_gt := mm_in_gt 971 (by decide +kernel) rfl
theorem wd_972 : (Jvm.Cond.fieldLink "LessonCardsModel" (233 : Nat) "LessonCardsModel" "hasEven" "Z") ∈ mm_gt := mm_in_gt 972 (by decide +kernel) rfl
theorem wd_973 : (Jvm.Cond.fieldLink "LessonCardsModel" (99 : Nat) "LessonCardsModel" "weight" "[J") ∈ mm_gt := mm_in_gt 973 (by decide +kernel) rfl
theorem wd_974 : (Jvm.Cond.fieldLink "LessonCardsModel" (239 : Nat) "LessonCardsModel" "levels" "I") ∈ mm_gt := mm_in_gt 974 (by decide +kernel) rfl
theorem wd_975 : (Jvm.Cond.fieldLink "LessonCardsModel" (242 : Nat) "LessonCardsModel" "slip" "I") ∈ mm_gt := mm_in_gt 975 (by decide +kernel) rfl
theorem wd_976 : (Jvm.Cond.fieldLink "LessonCardsModel" (245 : Nat) "LessonCardsModel" "guess" "I") ∈ mm_gt := mm_in_gt 976 (by decide +kernel) rfl
theorem wd_977 : (Jvm.Cond.fieldLink "LessonCardsModel" (252 : Nat) "LessonCardsModel" "told" "I") ∈ mm_gt := mm_in_gt 977 (by decide +kernel) rfl
theorem wd_978 : (Jvm.Cond.fieldLink "LessonCardsModel" (103 : Nat) "LessonCardsModel" "isOver" "Z") ∈ mm_gt := mm_in_gt 978 (by decide +kernel) rfl
theorem wd_979 : (Jvm.Cond.fieldLink "LessonCardsModel" (107 : Nat) "LessonCardsModel" "comeTo" "[Z") ∈ mm_gt := mm_in_gt 979 (by decide +kernel) rfl
theorem wd_980 : (Jvm.Cond.fieldLink "LessonCardsModel" (193 : Nat) "LessonCardsModel" "leastChance" "I") ∈ mm_gt := mm_in_gt 980 (by decide +kernel) rfl
theorem wd_981 : (Jvm.Cond.fieldLink "LessonCardsModel" (110 : Nat) "LessonCardsModel" "chances" "[I") ∈ mm_gt := mm_in_gt 981 (by decide +kernel) rfl
theorem wd_982 : (Jvm.Cond.fieldLink "LessonCardsModel" (113 : Nat) "LessonCardsModel" "planKept" "[I") ∈ mm_gt := mm_in_gt 982 (by decide +kernel) rfl
theorem wd_1080 : (Jvm.Cond.methodLink "LessonCardsLaw" (17 : Nat) ({ cls := "LessonCardsModel", name := "card", desc := "(I)I" } : Jvm.MethodName)) ∈ mm_gt := mm_in_gt 1080 (by decide +kernel) rfl
theorem wd_1081 : (Jvm.Cond.instanceMethod ({ cls := "LessonCardsModel", name := "card", desc := "(I)I" } : Jvm.MethodName)) ∈ mm_gt := mm_in_gt 1081 (by decide +kernel) rfl
theorem wd_1082 : (Jvm.Cond.selects "LessonCardsModel" ({ cls := "LessonCardsModel", name := "card", desc := "(I)I" } : Jvm.MethodName) ({ cls := "LessonCardsModel", name := "card", desc := "(I)I" } : Jvm.MethodName)) ∈ mm_gt := mm_in_gt 1082 (by decide +kernel) rfl
theorem wd_1083 : (Jvm.Cond.code ({ cls := "LessonCardsModel", name := "card", desc := "(I)I" } : Jvm.MethodName) prog_12_method_6_code (2 : Nat) (Option.some Jvm.ClassFile.FieldType.int)) ∈ mm_gt := mm_in_gt 1083 (by decide +kernel) rfl
theorem wd_1084 : (Jvm.Cond.methodLink "LessonCardsModel" (123 : Nat) ({ cls := "LessonCardsModel", name := "within", desc := "(III)Z" } : Jvm.MethodName)) ∈ mm_gt := mm_in_gt 1084 (by decide +kernel) rfl
theorem wd_1085 : (Jvm.Cond.static ({ cls := "LessonCardsModel", name := "within", desc := "(III)Z" } : Jvm.MethodName)) ∈ mm_gt := mm_in_gt 1085 (by decide +kernel) rfl
theorem wd_1086 : (Jvm.Cond.code ({ cls := "LessonCardsModel", name := "within", desc := "(III)Z" } : Jvm.MethodName) prog_12_method_2_code (3 : Nat) (Option.some Jvm.ClassFile.FieldType.boolean)) ∈ mm_gt := mm_in_gt 1086 (by decide +kernel) rfl
theorem wd_1087 : (Jvm.Cond.methodLink "LessonCardsLaw" (22 : Nat) ({ cls := "LessonCardsModel", name := "lean", desc := "(II)I" } : Jvm.MethodName)) ∈ mm_gt := mm_in_gt 1087 (by decide +kernel) rfl
theorem wd_1088 : (Jvm.Cond.instanceMethod ({ cls := "LessonCardsModel", name := "lean", desc := "(II)I" } : Jvm.MethodName)) ∈ mm_gt := mm_in_gt 1088 (by decide +kernel) rfl
theorem wd_1089 : (Jvm.Cond.selects "LessonCardsModel" ({ cls := "LessonCardsModel", name := "lean", desc := "(II)I" } : Jvm.MethodName) ({ cls := "LessonCardsModel", name := "lean", desc := "(II)I" } : Jvm.MethodName)) ∈ mm_gt := mm_in_gt 1089 (by decide +kernel) rfl
theorem wd_1090 : (Jvm.Cond.code ({ cls := "LessonCardsModel", name := "lean", desc := "(II)I" } : Jvm.MethodName) prog_12_method_8_code (4 : Nat) (Option.some Jvm.ClassFile.FieldType.int)) ∈ mm_gt := mm_in_gt 1090 (by decide +kernel) rfl
theorem wd_1091 : (Jvm.Cond.methodLink "LessonCardsModel" (119 : Nat) ({ cls := "LessonCardsModel", name := "isCard", desc := "(I)Z" } : Jvm.MethodName)) ∈ mm_gt := mm_in_gt 1091 (by decide +kernel) rfl
theorem wd_1093 : (Jvm.Cond.instanceMethod ({ cls := "LessonCardsModel", name := "isCard", desc := "(I)Z" } : Jvm.MethodName)) ∈ mm_gt := mm_in_gt 1093 (by decide +kernel) rfl
theorem wd_1094 : (Jvm.Cond.code ({ cls := "LessonCardsModel", name := "isCard", desc := "(I)Z" } : Jvm.MethodName) prog_12_method_4_code (2 : Nat) (Option.some Jvm.ClassFile.FieldType.boolean)) ∈ mm_gt := mm_in_gt 1094 (by decide +kernel) rfl
theorem wd_1095 : (Jvm.Cond.methodLink "LessonCardsModel" (127 : Nat) ({ cls := "LessonCardsModel", name := "leads", desc := "(II)Z" } : Jvm.MethodName)) ∈ mm_gt := mm_in_gt 1095 (by decide +kernel) rfl
theorem wd_1097 : (Jvm.Cond.instanceMethod ({ cls := "LessonCardsModel", name := "leads", desc := "(II)Z" } : Jvm.MethodName)) ∈ mm_gt := mm_in_gt 1097 (by decide +kernel) rfl
theorem wd_1098 : (Jvm.Cond.code ({ cls := "LessonCardsModel", name := "leads", desc := "(II)Z" } : Jvm.MethodName) prog_12_method_7_code (6 : Nat) (Option.some Jvm.ClassFile.FieldType.boolean)) ∈ mm_gt := mm_in_gt 1098 (by decide +kernel) rfl
theorem wd_1099 : (Jvm.Cond.methodLink "LessonCardsLaw" (26 : Nat) ({ cls := "LessonCardsModel", name := "rule", desc := "(I)I" } : Jvm.MethodName)) ∈ mm_gt := mm_in_gt 1099 (by decide +kernel) rfl
theorem wd_1100 : (Jvm.Cond.instanceMethod ({ cls := "LessonCardsModel", name := "rule", desc := "(I)I" } : Jvm.MethodName)) ∈ mm_gt := mm_in_gt 1100 (by decide +kernel) rfl
theorem wd_1101 : (Jvm.Cond.selects "LessonCardsModel" ({ cls := "LessonCardsModel", name := "rule", desc := "(I)I" } : Jvm.MethodName) ({ cls := "LessonCardsModel", name := "rule", desc := "(I)I" } : Jvm.MethodName)) ∈ mm_gt := mm_in_gt 1101 (by decide +kernel) rfl
theorem wd_1102 : (Jvm.Cond.code ({ cls := "LessonCardsModel", name := "rule", desc := "(I)I" } : Jvm.MethodName) prog_12_method_9_code (3 : Nat) (Option.some Jvm.ClassFile.FieldType.int)) ∈ mm_gt := mm_in_gt 1102 (by decide +kernel) rfl
theorem wd_1103 : (Jvm.Cond.methodLink "LessonCardsLaw" (30 : Nat) ({ cls := "LessonCardsModel", name := "table", desc := "(II)I" } : Jvm.MethodName)) ∈ mm_gt := mm_in_gt 1103 (by decide +kernel) rfl
theorem wd_1104 : (Jvm.Cond.instanceMethod ({ cls := "LessonCardsModel", name := "table", desc := "(II)I" } : Jvm.MethodName)) ∈ mm_gt := mm_in_gt 1104 (by decide +kernel) rfl
theorem wd_1105 : (Jvm.Cond.selects "LessonCardsModel" ({ cls := "LessonCardsModel", name := "table", desc := "(II)I" } : Jvm.MethodName) ({ cls := "LessonCardsModel", name := "table", desc := "(II)I" } : Jvm.MethodName)) ∈ mm_gt := mm_in_gt 1105 (by decide +kernel) rfl
theorem wd_1106 : (Jvm.Cond.code ({ cls := "LessonCardsModel", name := "table", desc := "(II)I" } : Jvm.MethodName) prog_12_method_10_code (4 : Nat) (Option.some Jvm.ClassFile.FieldType.int)) ∈ mm_gt := mm_in_gt 1106 (by decide +kernel) rfl
theorem wd_1107 : (Jvm.Cond.constant "LessonCardsModel" (134 : Nat) (100000 : Int32)) ∈ mm_gt := mm_in_gt 1107 (by decide +kernel) rfl
theorem wd_1108 : (Jvm.Cond.methodLink "LessonCardsLaw" (34 : Nat) ({ cls := "LessonCardsModel", name := "most", desc := "(II)I" } : Jvm.MethodName)) ∈ mm_gt := mm_in_gt 1108 (by decide +kernel) rfl
theorem wd_1109 : (Jvm.Cond.instanceMethod ({ cls := "LessonCardsModel", name := "most", desc := "(II)I" } : Jvm.MethodName)) ∈ mm_gt := mm_in_gt 1109 (by decide +kernel) rfl
theorem wd_1110 : (Jvm.Cond.selects "LessonCardsModel" ({ cls := "LessonCardsModel", name := "most", desc := "(II)I" } : Jvm.MethodName) ({ cls := "LessonCardsModel", name := "most", desc := "(II)I" } : Jvm.MethodName)) ∈ mm_gt := mm_in_gt 1110 (by decide +kernel) rfl
theorem wd_1111 : (Jvm.Cond.code ({ cls := "LessonCardsModel", name := "most", desc := "(II)I" } : Jvm.MethodName) prog_12_method_11_code (3 : Nat) (Option.some Jvm.ClassFile.FieldType.int)) ∈ mm_gt := mm_in_gt 1111 (by decide +kernel) rfl
theorem wd_1112 : (Jvm.Cond.methodLink "LessonCardsLaw" (38 : Nat) ({ cls := "LessonCardsModel", name := "day", desc := "(II)I" } : Jvm.MethodName)) ∈ mm_gt := mm_in_gt 1112 (by decide +kernel) rfl
theorem wd_1113 : (Jvm.Cond.instanceMethod ({ cls := "LessonCardsModel", name := "day", desc := "(II)I" } : Jvm.MethodName)) ∈ mm_gt := mm_in_gt 1113 (by decide +kernel) rfl
theorem wd_1114 : (Jvm.Cond.selects "LessonCardsModel" ({ cls := "LessonCardsModel", name := "day", desc := "(II)I" } : Jvm.MethodName) ({ cls := "LessonCardsModel", name := "day", desc := "(II)I" } : Jvm.MethodName)) ∈ mm_gt := mm_in_gt 1114 (by decide +kernel) rfl
theorem wd_1115 : (Jvm.Cond.code ({ cls := "LessonCardsModel", name := "day", desc := "(II)I" } : Jvm.MethodName) prog_12_method_22_code (4 : Nat) (Option.some Jvm.ClassFile.FieldType.int)) ∈ mm_gt := mm_in_gt 1115 (by decide +kernel) rfl
theorem wd_1116 : (Jvm.Cond.methodLink "LessonCardsModel" (190 : Nat) ({ cls := "LessonCardsModel", name := "isPupil", desc := "(I)Z" } : Jvm.MethodName)) ∈ mm_gt := mm_in_gt 1116 (by decide +kernel) rfl
theorem wd_1117 : (Jvm.Cond.static ({ cls := "LessonCardsModel", name := "isPupil", desc := "(I)Z" } : Jvm.MethodName)) ∈ mm_gt := mm_in_gt 1117 (by decide +kernel) rfl
theorem wd_1118 : (Jvm.Cond.code ({ cls := "LessonCardsModel", name := "isPupil", desc := "(I)Z" } : Jvm.MethodName) prog_12_method_3_code (1 : Nat) (Option.some Jvm.ClassFile.FieldType.boolean)) ∈ mm_gt := mm_in_gt 1118 (by decide +kernel) rfl
theorem wd_1119 : (Jvm.Cond.methodLink "LessonCardsLaw" (42 : Nat) ({ cls := "LessonCardsModel", name := "start", desc := "(I)I" } : Jvm.MethodName)) ∈ mm_gt := mm_in_gt 1119 (by decide +kernel) rfl
theorem wd_1120 : (Jvm.Cond.instanceMethod ({ cls := "LessonCardsModel", name := "start", desc := "(I)I" } : Jvm.MethodName)) ∈ mm_gt := mm_in_gt 1120 (by decide +kernel) rfl
theorem wd_1121 : (Jvm.Cond.selects "LessonCardsModel" ({ cls := "LessonCardsModel", name := "start", desc := "(I)I" } : Jvm.MethodName) ({ cls := "LessonCardsModel", name := "start", desc := "(I)I" } : Jvm.MethodName)) ∈ mm_gt := mm_in_gt 1121 (by decide +kernel) rfl
theorem wd_1122 : (Jvm.Cond.code ({ cls := "LessonCardsModel", name := "start", desc := "(I)I" } : Jvm.MethodName) prog_12_method_25_code (9 : Nat) (Option.some Jvm.ClassFile.FieldType.int)) ∈ mm_gt := mm_in_gt 1122 (by decide +kernel) rfl
theorem wd_1123 : (Jvm.Cond.methodLink "LessonCardsModel" (199 : Nat) ({ cls := "LessonCardsModel", name := "dueSide", desc := "(IIIZ)I" } : Jvm.MethodName)) ∈ mm_gt := mm_in_gt 1123 (by decide +kernel) rfl
theorem wd_1125 : (Jvm.Cond.instanceMethod ({ cls := "LessonCardsModel", name := "dueSide", desc := "(IIIZ)I" } : Jvm.MethodName)) ∈ mm_gt := mm_in_gt 1125 (by decide +kernel) rfl
theorem wd_1126 : (Jvm.Cond.code ({ cls := "LessonCardsModel", name := "dueSide", desc := "(IIIZ)I" } : Jvm.MethodName) prog_12_method_23_code (10 : Nat) (Option.some Jvm.ClassFile.FieldType.int)) ∈ mm_gt := mm_in_gt 1126 (by decide +kernel) rfl
theorem wd_1127 : (Jvm.Cond.methodLink "LessonCardsModel" (180 : Nat) ({ cls := "LessonCardsModel", name := "take", desc := "(I)V" } : Jvm.MethodName)) ∈ mm_gt := mm_in_gt 1127 (by decide +kernel) rfl
theorem wd_1129 : (Jvm.Cond.instanceMethod ({ cls := "LessonCardsModel", name := "take", desc := "(I)V" } : Jvm.MethodName)) ∈ mm_gt := mm_in_gt 1129 (by decide +kernel) rfl
theorem wd_1130 : (Jvm.Cond.code ({ cls := "LessonCardsModel", name := "take", desc := "(I)V" } : Jvm.MethodName) prog_12_method_12_code (2 : Nat) (Option.none : Option Jvm.ClassFile.FieldType)) ∈ mm_gt := mm_in_gt 1130 (by decide +kernel) rfl
theorem wd_1131 : (Jvm.Cond.methodLink "LessonCardsModel" (184 : Nat) ({ cls := "LessonCardsModel", name := "isDue", desc := "(I)Z" } : Jvm.MethodName)) ∈ mm_gt := mm_in_gt 1131 (by decide +kernel) rfl
theorem wd_1133 : (Jvm.Cond.instanceMethod ({ cls := "LessonCardsModel", name := "isDue", desc := "(I)Z" } : Jvm.MethodName)) ∈ mm_gt := mm_in_gt 1133 (by decide +kernel) rfl
theorem wd_1134 : (Jvm.Cond.code ({ cls := "LessonCardsModel", name := "isDue", desc := "(I)Z" } : Jvm.MethodName) prog_12_method_19_code (2 : Nat) (Option.some Jvm.ClassFile.FieldType.boolean)) ∈ mm_gt := mm_in_gt 1134 (by decide +kernel) rfl
theorem wd_1135 : (Jvm.Cond.methodLink "LessonCardsModel" (176 : Nat) ({ cls := "LessonCardsModel", name := "isLeech", desc := "()Z" } : Jvm.MethodName)) ∈ mm_gt := mm_in_gt 1135 (by decide +kernel) rfl
theorem wd_1137 : (Jvm.Cond.instanceMethod ({ cls := "LessonCardsModel", name := "isLeech", desc := "()Z" } : Jvm.MethodName)) ∈ mm_gt := mm_in_gt 1137 (by decide +kernel) rfl
theorem wd_1138 : (Jvm.Cond.code ({ cls := "LessonCardsModel", name := "isLeech", desc := "()Z" } : Jvm.MethodName) prog_12_method_18_code (1 : Nat) (Option.some Jvm.ClassFile.FieldType.boolean)) ∈ mm_gt := mm_in_gt 1138 (by decide +kernel) rfl
theorem wd_1139 : (Jvm.Cond.methodLink "LessonCardsModel" (162 : Nat) ({ cls := "LessonCardsModel", name := "chance", desc := "(I)I" } : Jvm.MethodName)) ∈ mm_gt := mm_in_gt 1139 (by decide +kernel) rfl
theorem wd_1141 : (Jvm.Cond.instanceMethod ({ cls := "LessonCardsModel", name := "chance", desc := "(I)I" } : Jvm.MethodName)) ∈ mm_gt := mm_in_gt 1141 (by decide +kernel) rfl
theorem wd_1142 : (Jvm.Cond.code ({ cls := "LessonCardsModel", name := "chance", desc := "(I)I" } : Jvm.MethodName) prog_12_method_14_code (7 : Nat) (Option.some Jvm.ClassFile.FieldType.int)) ∈ mm_gt := mm_in_gt 1142 (by decide +kernel) rfl
theorem wd_1143 : (Jvm.Cond.constantLong "LessonCardsModel" (150 : Nat) (16000 : Int64)) ∈ mm_gt := mm_in_gt 1143 (by decide +kernel) rfl
theorem wd_1144 : (Jvm.Cond.methodLink "LessonCardsModel" (203 : Nat) ({ cls := "LessonCardsModel", name := "leanedOn", desc := "(II)I" } : Jvm.MethodName)) ∈ mm_gt := mm_in_gt 1144 (by decide +kernel) rfl
theorem wd_1146 : (Jvm.Cond.instanceMethod ({ cls := "LessonCardsModel", name := "leanedOn", desc := "(II)I" } : Jvm.MethodName)) ∈ mm_gt := mm_in_gt 1146 (by decide +kernel) rfl
theorem wd_1147 : (Jvm.Cond.code ({ cls := "LessonCardsModel", name := "leanedOn", desc := "(II)I" } : Jvm.MethodName) prog_12_method_24_code (5 : Nat) (Option.some Jvm.ClassFile.FieldType.int)) ∈ mm_gt := mm_in_gt 1147 (by decide +kernel) rfl
theorem wd_1148 : (Jvm.Cond.methodLink "LessonCardsModel" (196 : Nat) ({ cls := "LessonCardsModel", name := "isKnown", desc := "(II)Z" } : Jvm.MethodName)) ∈ mm_gt := mm_in_gt 1148 (by decide +kernel) rfl
theorem wd_1150 : (Jvm.Cond.instanceMethod ({ cls := "LessonCardsModel", name := "isKnown", desc := "(II)Z" } : Jvm.MethodName)) ∈ mm_gt := mm_in_gt 1150 (by decide +kernel) rfl
theorem wd_1151 : (Jvm.Cond.code ({ cls := "LessonCardsModel", name := "isKnown", desc := "(II)Z" } : Jvm.MethodName) prog_12_method_21_code (5 : Nat) (Option.some Jvm.ClassFile.FieldType.boolean)) ∈ mm_gt := mm_in_gt 1151 (by decide +kernel) rfl
theorem wd_1152 : (Jvm.Cond.methodLink "LessonCardsModel" (187 : Nat) ({ cls := "LessonCardsModel", name := "isKnownSide", desc := "(III)Z" } : Jvm.MethodName)) ∈ mm_gt := mm_in_gt 1152 (by decide +kernel) rfl
theorem wd_1154 : (Jvm.Cond.instanceMethod ({ cls := "LessonCardsModel", name := "isKnownSide", desc := "(III)Z" } : Jvm.MethodName)) ∈ mm_gt := mm_in_gt 1154 (by decide +kernel) rfl
theorem wd_1155 : (Jvm.Cond.code ({ cls := "LessonCardsModel", name := "isKnownSide", desc := "(III)Z" } : Jvm.MethodName) prog_12_method_20_code (4 : Nat) (Option.some Jvm.ClassFile.FieldType.boolean)) ∈ mm_gt := mm_in_gt 1155 (by decide +kernel) rfl
theorem wd_1156 : (Jvm.Cond.methodLink "LessonCardsLaw" (46 : Nat) ({ cls := "LessonCardsModel", name := "next", desc := "(I)I" } : Jvm.MethodName)) ∈ mm_gt := mm_in_gt 1156 (by decide +kernel) rfl
theorem wd_1157 : (Jvm.Cond.instanceMethod ({ cls := "LessonCardsModel", name := "next", desc := "(I)I" } : Jvm.MethodName)) ∈ mm_gt := mm_in_gt 1157 (by decide +kernel) rfl
theorem wd_1158 : (Jvm.Cond.selects "LessonCardsModel" ({ cls := "LessonCardsModel", name := "next", desc := "(I)I" } : Jvm.MethodName) ({ cls := "LessonCardsModel", name := "next", desc := "(I)I" } : Jvm.MethodName)) ∈ mm_gt := mm_in_gt 1158 (by decide +kernel) rfl
theorem wd_1159 : (Jvm.Cond.code ({ cls := "LessonCardsModel", name := "next", desc := "(I)I" } : Jvm.MethodName) prog_12_method_26_code (2 : Nat) (Option.some Jvm.ClassFile.FieldType.int)) ∈ mm_gt := mm_in_gt 1159 (by decide +kernel) rfl
theorem wd_1160 : (Jvm.Cond.methodLink "LessonCardsLaw" (50 : Nat) ({ cls := "LessonCardsModel", name := "answer", desc := "(II)I" } : Jvm.MethodName)) ∈ mm_gt := mm_in_gt 1160 (by decide +kernel) rfl
theorem wd_1161 : (Jvm.Cond.instanceMethod ({ cls := "LessonCardsModel", name := "answer", desc := "(II)I" } : Jvm.MethodName)) ∈ mm_gt := mm_in_gt 1161 (by decide +kernel) rfl
theorem wd_1162 : (Jvm.Cond.selects "LessonCardsModel" ({ cls := "LessonCardsModel", name := "answer", desc := "(II)I" } : Jvm.MethodName) ({ cls := "LessonCardsModel", name := "answer", desc := "(II)I" } : Jvm.MethodName)) ∈ mm_gt := mm_in_gt 1162 (by decide +kernel) rfl
theorem wd_1163 : (Jvm.Cond.code ({ cls := "LessonCardsModel", name := "answer", desc := "(II)I" } : Jvm.MethodName) prog_12_method_28_code (5 : Nat) (Option.some Jvm.ClassFile.FieldType.int)) ∈ mm_gt := mm_in_gt 1163 (by decide +kernel) rfl
theorem wd_1164 : (Jvm.Cond.methodLink "LessonCardsModel" (210 : Nat) ({ cls := "LessonCardsModel", name := "answerBy", desc := "(IIII)V" } : Jvm.MethodName)) ∈ mm_gt := mm_in_gt 1164 (by decide +kernel) rfl
theorem wd_1166 : (Jvm.Cond.instanceMethod ({ cls := "LessonCardsModel", name := "answerBy", desc := "(IIII)V" } : Jvm.MethodName)) ∈ mm_gt := mm_in_gt 1166 (by decide +kernel) rfl
theorem wd_1167 : (Jvm.Cond.code ({ cls := "LessonCardsModel", name := "answerBy", desc := "(IIII)V" } : Jvm.MethodName) prog_12_method_16_code (7 : Nat) (Option.none : Option Jvm.ClassFile.FieldType)) ∈ mm_gt := mm_in_gt 1167 (by decide +kernel) rfl
theorem wd_1168 : (Jvm.Cond.constantLong "LessonCardsModel" (152 : Nat) (1000 : Int64)) ∈ mm_gt := mm_in_gt 1168 (by decide +kernel) rfl
theorem wd_1169 : (Jvm.Cond.constantLong "LessonCardsModel" (154 : Nat) (500 : Int64)) ∈ mm_gt := mm_in_gt 1169 (by decide +kernel) rfl
theorem wd_1170 : (Jvm.Cond.constantLong "LessonCardsModel" (156 : Nat) (4000000 : Int64)) ∈ mm_gt := mm_in_gt 1170 (by decide +kernel) rfl
theorem wd_1171 : (Jvm.Cond.methodLink "LessonCardsModel" (158 : Nat) ({ cls := "LessonCardsModel", name := "kept", desc := "(JJJ)J" } : Jvm.MethodName)) ∈ mm_gt := mm_in_gt 1171 (by decide +kernel) rfl
theorem wd_1172 : (Jvm.Cond.static ({ cls := "LessonCardsModel", name := "kept", desc := "(JJJ)J" } : Jvm.MethodName)) ∈ mm_gt := mm_in_gt 1172 (by decide +kernel) rfl
theorem wd_1173 : (Jvm.Cond.code ({ cls := "LessonCardsModel", name := "kept", desc := "(JJJ)J" } : Jvm.MethodName) prog_12_method_15_code (6 : Nat) (Option.some Jvm.ClassFile.FieldType.long)) ∈ mm_gt := mm_in_gt 1173 (by decide +kernel) rfl
theorem wd_1174 : (Jvm.Cond.methodLink "LessonCardsModel" (166 : Nat) ({ cls := "LessonCardsModel", name := "byStrengths", desc := "(II)V" } : Jvm.MethodName)) ∈ mm_gt := mm_in_gt 1174 (by decide +kernel) rfl
theorem wd_1176 : (Jvm.Cond.instanceMethod ({ cls := "LessonCardsModel", name := "byStrengths", desc := "(II)V" } : Jvm.MethodName)) ∈ mm_gt := mm_in_gt 1176 (by decide +kernel) rfl
theorem wd_1177 : (Jvm.Cond.code ({ cls := "LessonCardsModel", name := "byStrengths", desc := "(II)V" } : Jvm.MethodName) prog_12_method_17_code (6 : Nat) (Option.none : Option Jvm.ClassFile.FieldType)) ∈ mm_gt := mm_in_gt 1177 (by decide +kernel) rfl
theorem wd_1178 : (Jvm.Cond.constantLong "LessonCardsModel" (170 : Nat) (5 : Int64)) ∈ mm_gt := mm_in_gt 1178 (by decide +kernel) rfl
theorem wd_1179 : (Jvm.Cond.constantLong "LessonCardsModel" (172 : Nat) (1300 : Int64)) ∈ mm_gt := mm_in_gt 1179 (by decide +kernel) rfl
theorem wd_1180 : (Jvm.Cond.constantLong "LessonCardsModel" (174 : Nat) (3500 : Int64)) ∈ mm_gt := mm_in_gt 1180 (by decide +kernel) rfl
theorem wd_1181 : (Jvm.Cond.methodLink "LessonCardsModel" (214 : Nat) ({ cls := "LessonCardsModel", name := "give", desc := "(I)V" } : Jvm.MethodName)) ∈ mm_gt := mm_in_gt 1181 (by decide +kernel) rfl
theorem wd_1183 : (Jvm.Cond.instanceMethod ({ cls := "LessonCardsModel", name := "give", desc := "(I)V" } : Jvm.MethodName)) ∈ mm_gt := mm_in_gt 1183 (by decide +kernel) rfl
theorem wd_1184 : (Jvm.Cond.code ({ cls := "LessonCardsModel", name := "give", desc := "(I)V" } : Jvm.MethodName) prog_12_method_29_code (2 : Nat) (Option.none : Option Jvm.ClassFile.FieldType)) ∈ mm_gt := mm_in_gt 1184 (by decide +kernel) rfl
theorem wd_1185 : (Jvm.Cond.methodLink "LessonCardsModel" (217 : Nat) ({ cls := "LessonCardsModel", name := "dropFirst", desc := "(I)V" } : Jvm.MethodName)) ∈ mm_gt := mm_in_gt 1185 (by decide +kernel) rfl
theorem wd_1187 : (Jvm.Cond.instanceMethod ({ cls := "LessonCardsModel", name := "dropFirst", desc := "(I)V" } : Jvm.MethodName)) ∈ mm_gt := mm_in_gt 1187 (by decide +kernel) rfl
theorem wd_1188 : (Jvm.Cond.code ({ cls := "LessonCardsModel", name := "dropFirst", desc := "(I)V" } : Jvm.MethodName) prog_12_method_27_code (3 : Nat) (Option.none : Option Jvm.ClassFile.FieldType)) ∈ mm_gt := mm_in_gt 1188 (by decide +kernel) rfl
theorem wd_1189 : (Jvm.Cond.methodLink "LessonCardsLaw" (54 : Nat) ({ cls := "LessonCardsModel", name := "skip", desc := "(I)I" } : Jvm.MethodName)) ∈ mm_gt := mm_in_gt 1189 (by decide +kernel) rfl
theorem wd_1190 : (Jvm.Cond.instanceMethod ({ cls := "LessonCardsModel", name := "skip", desc := "(I)I" } : Jvm.MethodName)) ∈ mm_gt := mm_in_gt 1190 (by decide +kernel) rfl
theorem wd_1191 : (Jvm.Cond.selects "LessonCardsModel" ({ cls := "LessonCardsModel", name := "skip", desc := "(I)I" } : Jvm.MethodName) ({ cls := "LessonCardsModel", name := "skip", desc := "(I)I" } : Jvm.MethodName)) ∈ mm_gt := mm_in_gt 1191 (by decide +kernel) rfl
theorem wd_1192 : (Jvm.Cond.code ({ cls := "LessonCardsModel", name := "skip", desc := "(I)I" } : Jvm.MethodName) prog_12_method_30_code (3 : Nat) (Option.some Jvm.ClassFile.FieldType.int)) ∈ mm_gt := mm_in_gt 1192 (by decide +kernel) rfl
theorem wd_1193 : (Jvm.Cond.methodLink "LessonCardsLaw" (59 : Nat) ({ cls := "LessonCardsModel", name := "bury", desc := "(III)I" } : Jvm.MethodName)) ∈ mm_gt := mm_in_gt 1193 (by decide +kernel) rfl
theorem wd_1194 : (Jvm.Cond.instanceMethod ({ cls := "LessonCardsModel", name := "bury", desc := "(III)I" } : Jvm.MethodName)) ∈ mm_gt := mm_in_gt 1194 (by decide +kernel) rfl
theorem wd_1195 : (Jvm.Cond.selects "LessonCardsModel" ({ cls := "LessonCardsModel", name := "bury", desc := "(III)I" } : Jvm.MethodName) ({ cls := "LessonCardsModel", name := "bury", desc := "(III)I" } : Jvm.MethodName)) ∈ mm_gt := mm_in_gt 1195 (by decide +kernel) rfl
theorem wd_1196 : (Jvm.Cond.code ({ cls := "LessonCardsModel", name := "bury", desc := "(III)I" } : Jvm.MethodName) prog_12_method_31_code (6 : Nat) (Option.some Jvm.ClassFile.FieldType.int)) ∈ mm_gt := mm_in_gt 1196 (by decide +kernel) rfl
theorem wd_1197 : (Jvm.Cond.methodLink "LessonCardsModel" (220 : Nat) ({ cls := "LessonCardsModel", name := "isSide", desc := "(II)Z" } : Jvm.MethodName)) ∈ mm_gt := mm_in_gt 1197 (by decide +kernel) rfl
theorem wd_1199 : (Jvm.Cond.instanceMethod ({ cls := "LessonCardsModel", name := "isSide", desc := "(II)Z" } : Jvm.MethodName)) ∈ mm_gt := mm_in_gt 1199 (by decide +kernel) rfl
theorem wd_1200 : (Jvm.Cond.code ({ cls := "LessonCardsModel", name := "isSide", desc := "(II)Z" } : Jvm.MethodName) prog_12_method_5_code (3 : Nat) (Option.some Jvm.ClassFile.FieldType.boolean)) ∈ mm_gt := mm_in_gt 1200 (by decide +kernel) rfl
theorem wd_1201 : (Jvm.Cond.methodLink "LessonCardsLaw" (64 : Nat) ({ cls := "LessonCardsModel", name := "undo", desc := "()I" } : Jvm.MethodName)) ∈ mm_gt := mm_in_gt 1201 (by decide +kernel) rfl
theorem wd_1202 : (Jvm.Cond.instanceMethod ({ cls := "LessonCardsModel", name := "undo", desc := "()I" } : Jvm.MethodName)) ∈ mm_gt := mm_in_gt 1202 (by decide +kernel) rfl
theorem wd_1203 : (Jvm.Cond.selects "LessonCardsModel" ({ cls := "LessonCardsModel", name := "undo", desc := "()I" } : Jvm.MethodName) ({ cls := "LessonCardsModel", name := "undo", desc := "()I" } : Jvm.MethodName)) ∈ mm_gt := mm_in_gt 1203 (by decide +kernel) rfl
theorem wd_1204 : (Jvm.Cond.code ({ cls := "LessonCardsModel", name := "undo", desc := "()I" } : Jvm.MethodName) prog_12_method_32_code (2 : Nat) (Option.some Jvm.ClassFile.FieldType.int)) ∈ mm_gt := mm_in_gt 1204 (by decide +kernel) rfl
theorem wd_1205 : (Jvm.Cond.methodLink "LessonCardsLaw" (69 : Nat) ({ cls := "LessonCardsModel", name := "memory", desc := "(IIII)I" } : Jvm.MethodName)) ∈ mm_gt := mm_in_gt 1205 (by decide +kernel) rfl
theorem wd_1206 : (Jvm.Cond.instanceMethod ({ cls := "LessonCardsModel", name := "memory", desc := "(IIII)I" } : Jvm.MethodName)) ∈ mm_gt := mm_in_gt 1206 (by decide +kernel) rfl
theorem wd_1207 : (Jvm.Cond.selects "LessonCardsModel" ({ cls := "LessonCardsModel", name := "memory", desc := "(IIII)I" } : Jvm.MethodName) ({ cls := "LessonCardsModel", name := "memory", desc := "(IIII)I" } : Jvm.MethodName)) ∈ mm_gt := mm_in_gt 1207 (by decide +kernel) rfl
theorem wd_1208 : (Jvm.Cond.code ({ cls := "LessonCardsModel", name := "memory", desc := "(IIII)I" } : Jvm.MethodName) prog_12_method_33_code (6 : Nat) (Option.some Jvm.ClassFile.FieldType.int)) ∈ mm_gt := mm_in_gt 1208 (by decide +kernel) rfl
theorem wd_1209 : (Jvm.Cond.methodLink "LessonCardsLaw" (73 : Nat) ({ cls := "LessonCardsModel", name := "when", desc := "(III)I" } : Jvm.MethodName)) ∈ mm_gt := mm_in_gt 1209 (by decide +kernel) rfl
theorem wd_1210 : (Jvm.Cond.instanceMethod ({ cls := "LessonCardsModel", name := "when", desc := "(III)I" } : Jvm.MethodName)) ∈ mm_gt := mm_in_gt 1210 (by decide +kernel) rfl
theorem wd_1211 : (Jvm.Cond.selects "LessonCardsModel" ({ cls := "LessonCardsModel", name := "when", desc := "(III)I" } : Jvm.MethodName) ({ cls := "LessonCardsModel", name := "when", desc := "(III)I" } : Jvm.MethodName)) ∈ mm_gt := mm_in_gt 1211 (by decide +kernel) rfl
theorem wd_1212 : (Jvm.Cond.code ({ cls := "LessonCardsModel", name := "when", desc := "(III)I" } : Jvm.MethodName) prog_12_method_35_code (4 : Nat) (Option.some Jvm.ClassFile.FieldType.int)) ∈ mm_gt := mm_in_gt 1212 (by decide +kernel) rfl
theorem wd_1213 : (Jvm.Cond.methodLink "LessonCardsModel" (223 : Nat) ({ cls := "LessonCardsModel", name := "firstDue", desc := "(II)I" } : Jvm.MethodName)) ∈ mm_gt := mm_in_gt 1213 (by decide +kernel) rfl
theorem wd_1215 : (Jvm.Cond.instanceMethod ({ cls := "LessonCardsModel", name := "firstDue", desc := "(II)I" } : Jvm.MethodName)) ∈ mm_gt := mm_in_gt 1215 (by decide +kernel) rfl
theorem wd_1216 : (Jvm.Cond.code ({ cls := "LessonCardsModel", name := "firstDue", desc := "(II)I" } : Jvm.MethodName) prog_12_method_34_code (4 : Nat) (Option.some Jvm.ClassFile.FieldType.int)) ∈ mm_gt := mm_in_gt 1216 (by decide +kernel) rfl
theorem wd_1217 : (Jvm.Cond.methodLink "LessonCardsLaw" (77 : Nat) ({ cls := "LessonCardsModel", name := "pupil", desc := "(II)I" } : Jvm.MethodName)) ∈ mm_gt := mm_in_gt 1217 (by decide +kernel) rfl
theorem wd_1218 : (Jvm.Cond.instanceMethod ({ cls := "LessonCardsModel", name := "pupil", desc := "(II)I" } : Jvm.MethodName)) ∈ mm_gt := mm_in_gt 1218 (by decide +kernel) rfl
theorem wd_1219 : (Jvm.Cond.selects "LessonCardsModel" ({ cls := "LessonCardsModel", name := "pupil", desc := "(II)I" } : Jvm.MethodName) ({ cls := "LessonCardsModel", name := "pupil", desc := "(II)I" } : Jvm.MethodName)) ∈ mm_gt := mm_in_gt 1219 (by decide +kernel) rfl
theorem wd_1220 : (Jvm.Cond.code ({ cls := "LessonCardsModel", name := "pupil", desc := "(II)I" } : Jvm.MethodName) prog_12_method_37_code (5 : Nat) (Option.some Jvm.ClassFile.FieldType.int)) ∈ mm_gt := mm_in_gt 1220 (by decide +kernel) rfl
theorem wd_1221 : (Jvm.Cond.methodLink "LessonCardsModel" (226 : Nat) ({ cls := "LessonCardsModel", name := "sidesThat", desc := "(II)I" } : Jvm.MethodName)) ∈ mm_gt := mm_in_gt 1221 (by decide +kernel) rfl
theorem wd_1223 : (Jvm.Cond.instanceMethod ({ cls := "LessonCardsModel", name := "sidesThat", desc := "(II)I" } : Jvm.MethodName)) ∈ mm_gt := mm_in_gt 1223 (by decide +kernel) rfl
theorem wd_1224 : (Jvm.Cond.code ({ cls := "LessonCardsModel", name := "sidesThat", desc := "(II)I" } : Jvm.MethodName) prog_12_method_36_code (6 : Nat) (Option.some Jvm.ClassFile.FieldType.int)) ∈ mm_gt := mm_in_gt 1224 (by decide +kernel) rfl
theorem wd_1225 : (Jvm.Cond.methodLink "LessonCardsLaw" (81 : Nat) ({ cls := "LessonCardsModel", name := "known", desc := "(II)I" } : Jvm.MethodName)) ∈ mm_gt := mm_in_gt 1225 (by decide +kernel) rfl
theorem wd_1226 : (Jvm.Cond.instanceMethod ({ cls := "LessonCardsModel", name := "known", desc := "(II)I" } : Jvm.MethodName)) ∈ mm_gt := mm_in_gt 1226 (by decide +kernel) rfl
theorem wd_1227 : (Jvm.Cond.selects "LessonCardsModel" ({ cls := "LessonCardsModel", name := "known", desc := "(II)I" } : Jvm.MethodName) ({ cls := "LessonCardsModel", name := "known", desc := "(II)I" } : Jvm.MethodName)) ∈ mm_gt := mm_in_gt 1227 (by decide +kernel) rfl
theorem wd_1228 : (Jvm.Cond.code ({ cls := "LessonCardsModel", name := "known", desc := "(II)I" } : Jvm.MethodName) prog_12_method_38_code (3 : Nat) (Option.some Jvm.ClassFile.FieldType.int)) ∈ mm_gt := mm_in_gt 1228 (by decide +kernel) rfl
theorem wd_1229 : (Jvm.Cond.methodLink "LessonCardsLaw" (85 : Nat) ({ cls := "LessonCardsModel", name := "mean", desc := "(II)I" } : Jvm.MethodName)) ∈ mm_gt := mm_in_gt 1229 (by decide +kernel) rfl
theorem wd_1230 : (Jvm.Cond.instanceMethod ({ cls := "LessonCardsModel", name := "mean", desc := "(II)I" } : Jvm.MethodName)) ∈ mm_gt := mm_in_gt 1230 (by decide +kernel) rfl
theorem wd_1231 : (Jvm.Cond.selects "LessonCardsModel" ({ cls := "LessonCardsModel", name := "mean", desc := "(II)I" } : Jvm.MethodName) ({ cls := "LessonCardsModel", name := "mean", desc := "(II)I" } : Jvm.MethodName)) ∈ mm_gt := mm_in_gt 1231 (by decide +kernel) rfl
theorem wd_1232 : (Jvm.Cond.code ({ cls := "LessonCardsModel", name := "mean", desc := "(II)I" } : Jvm.MethodName) prog_12_method_39_code (5 : Nat) (Option.some Jvm.ClassFile.FieldType.int)) ∈ mm_gt := mm_in_gt 1232 (by decide +kernel) rfl
theorem wd_1233 : (Jvm.Cond.methodLink "LessonCardsModel" (229 : Nat) ({ cls := "LessonCardsModel", name := "memory", desc := "(IIII)I" } : Jvm.MethodName)) ∈ mm_gt := mm_in_gt 1233 (by decide +kernel) rfl
theorem wd_1234 : (Jvm.Cond.methodLink "LessonCardsLaw" (89 : Nat) ({ cls := "LessonCardsModel", name := "plan", desc := "(II)I" } : Jvm.MethodName)) ∈ mm_gt := mm_in_gt 1234 (by decide +kernel) rfl
theorem wd_1235 : (Jvm.Cond.instanceMethod ({ cls := "LessonCardsModel", name := "plan", desc := "(II)I" } : Jvm.MethodName)) ∈ mm_gt := mm_in_gt 1235 (by decide +kernel) rfl
theorem wd_1236 : (Jvm.Cond.selects "LessonCardsModel" ({ cls := "LessonCardsModel", name := "plan", desc := "(II)I" } : Jvm.MethodName) ({ cls := "LessonCardsModel", name := "plan", desc := "(II)I" } : Jvm.MethodName)) ∈ mm_gt := mm_in_gt 1236 (by decide +kernel) rfl
theorem wd_1237 : (Jvm.Cond.code ({ cls := "LessonCardsModel", name := "plan", desc := "(II)I" } : Jvm.MethodName) prog_12_method_40_code (10 : Nat) (Option.some Jvm.ClassFile.FieldType.int)) ∈ mm_gt := mm_in_gt 1237 (by decide +kernel) rfl
theorem wd_1238 : (Jvm.Cond.methodLink "LessonCardsLaw" (93 : Nat) ({ cls := "LessonCardsModel", name := "even", desc := "(II)I" } : Jvm.MethodName)) ∈ mm_gt := mm_in_gt 1238 (by decide +kernel) rfl
theorem wd_1239 : (Jvm.Cond.instanceMethod ({ cls := "LessonCardsModel", name := "even", desc := "(II)I" } : Jvm.MethodName)) ∈ mm_gt := mm_in_gt 1239 (by decide +kernel) rfl
theorem wd_1240 : (Jvm.Cond.selects "LessonCardsModel" ({ cls := "LessonCardsModel", name := "even", desc := "(II)I" } : Jvm.MethodName) ({ cls := "LessonCardsModel", name := "even", desc := "(II)I" } : Jvm.MethodName)) ∈ mm_gt := mm_in_gt 1240 (by decide +kernel) rfl
theorem wd_1241 : (Jvm.Cond.code ({ cls := "LessonCardsModel", name := "even", desc := "(II)I" } : Jvm.MethodName) prog_12_method_42_code (8 : Nat) (Option.some Jvm.ClassFile.FieldType.int)) ∈ mm_gt := mm_in_gt 1241 (by decide +kernel) rfl
theorem wd_1242 : (Jvm.Cond.methodLink "LessonCardsModel" (236 : Nat) ({ cls := "LessonCardsModel", name := "putAll", desc := "(III)Z" } : Jvm.MethodName)) ∈ mm_gt := mm_in_gt 1242 (by decide +kernel) rfl
theorem wd_1244 : (Jvm.Cond.instanceMethod ({ cls := "LessonCardsModel", name := "putAll", desc := "(III)Z" } : Jvm.MethodName)) ∈ mm_gt := mm_in_gt 1244 (by decide +kernel) rfl
theorem wd_1245 : (Jvm.Cond.code ({ cls := "LessonCardsModel", name := "putAll", desc := "(III)Z" } : Jvm.MethodName) prog_12_method_41_code (8 : Nat) (Option.some Jvm.ClassFile.FieldType.boolean)) ∈ mm_gt := mm_in_gt 1245 (by decide +kernel) rfl
theorem wd_1246 : (Jvm.Cond.methodLink "LessonCardsLaw" (97 : Nat) ({ cls := "LessonCardsModel", name := "load", desc := "(I)I" } : Jvm.MethodName)) ∈ mm_gt := mm_in_gt 1246 (by decide +kernel) rfl
theorem wd_1247 : (Jvm.Cond.instanceMethod ({ cls := "LessonCardsModel", name := "load", desc := "(I)I" } : Jvm.MethodName)) ∈ mm_gt := mm_in_gt 1247 (by decide +kernel) rfl
theorem wd_1248 : (Jvm.Cond.selects "LessonCardsModel" ({ cls := "LessonCardsModel", name := "load", desc := "(I)I" } : Jvm.MethodName) ({ cls := "LessonCardsModel", name := "load", desc := "(I)I" } : Jvm.MethodName)) ∈ mm_gt := mm_in_gt 1248 (by decide +kernel) rfl
theorem wd_1249 : (Jvm.Cond.code ({ cls := "LessonCardsModel", name := "load", desc := "(I)I" } : Jvm.MethodName) prog_12_method_43_code (2 : Nat) (Option.some Jvm.ClassFile.FieldType.int)) ∈ mm_gt := mm_in_gt 1249 (by decide +kernel) rfl
theorem wd_1250 : (Jvm.Cond.methodLink "LessonCardsLaw" (101 : Nat) ({ cls := "LessonCardsModel", name := "put", desc := "(II)I" } : Jvm.MethodName)) ∈ mm_gt := mm_in_gt 1250 (by decide +kernel) rfl
theorem wd_1251 : (Jvm.Cond.instanceMethod ({ cls := "LessonCardsModel", name := "put", desc := "(II)I" } : Jvm.MethodName)) ∈ mm_gt := mm_in_gt 1251 (by decide +kernel) rfl
theorem wd_1252 : (Jvm.Cond.selects "LessonCardsModel" ({ cls := "LessonCardsModel", name := "put", desc := "(II)I" } : Jvm.MethodName) ({ cls := "LessonCardsModel", name := "put", desc := "(II)I" } : Jvm.MethodName)) ∈ mm_gt := mm_in_gt 1252 (by decide +kernel) rfl
theorem wd_1253 : (Jvm.Cond.code ({ cls := "LessonCardsModel", name := "put", desc := "(II)I" } : Jvm.MethodName) prog_12_method_44_code (3 : Nat) (Option.some Jvm.ClassFile.FieldType.int)) ∈ mm_gt := mm_in_gt 1253 (by decide +kernel) rfl
theorem wd_1254 : (Jvm.Cond.methodLink "LessonCardsLaw" (105 : Nat) ({ cls := "LessonCardsModel", name := "test", desc := "(III)I" } : Jvm.MethodName)) ∈ mm_gt := mm_in_gt 1254 (by decide +kernel) rfl
theorem wd_1255 : (Jvm.Cond.instanceMethod ({ cls := "LessonCardsModel", name := "test", desc := "(III)I" } : Jvm.MethodName)) ∈ mm_gt := mm_in_gt 1255 (by decide +kernel) rfl
theorem wd_1256 : (Jvm.Cond.selects "LessonCardsModel" ({ cls := "LessonCardsModel", name := "test", desc := "(III)I" } : Jvm.MethodName) ({ cls := "LessonCardsModel", name := "test", desc := "(III)I" } : Jvm.MethodName)) ∈ mm_gt := mm_in_gt 1256 (by decide +kernel) rfl
theorem wd_1257 : (Jvm.Cond.code ({ cls := "LessonCardsModel", name := "test", desc := "(III)I" } : Jvm.MethodName) prog_12_method_47_code (5 : Nat) (Option.some Jvm.ClassFile.FieldType.int)) ∈ mm_gt := mm_in_gt 1257 (by decide +kernel) rfl
theorem wd_1258 : (Jvm.Cond.methodLink "LessonCardsModel" (255 : Nat) ({ cls := "LessonCardsModel", name := "bestQuestion", desc := "()I" } : Jvm.MethodName)) ∈ mm_gt := mm_in_gt 1258 (by decide +kernel) rfl
theorem wd_1260 : (Jvm.Cond.instanceMethod ({ cls := "LessonCardsModel", name := "bestQuestion", desc := "()I" } : Jvm.MethodName)) ∈ mm_gt := mm_in_gt 1260 (by decide +kernel) rfl
theorem wd_1261 : (Jvm.Cond.code ({ cls := "LessonCardsModel", name := "bestQuestion", desc := "()I" } : Jvm.MethodName) prog_12_method_46_code (3 : Nat) (Option.some Jvm.ClassFile.FieldType.int)) ∈ mm_gt := mm_in_gt 1261 (by decide +kernel) rfl
theorem wd_1262 : (Jvm.Cond.methodLink "LessonCardsModel" (248 : Nat) ({ cls := "LessonCardsModel", name := "greatest", desc := "(IZ)J" } : Jvm.MethodName)) ∈ mm_gt := mm_in_gt 1262 (by decide +kernel) rfl
theorem wd_1264 : (Jvm.Cond.instanceMethod ({ cls := "LessonCardsModel", name := "greatest", desc := "(IZ)J" } : Jvm.MethodName)) ∈ mm_gt := mm_in_gt 1264 (by decide +kernel) rfl
theorem wd_1265 : (Jvm.Cond.code ({ cls := "LessonCardsModel", name := "greatest", desc := "(IZ)J" } : Jvm.MethodName) prog_12_method_45_code (8 : Nat) (Option.some Jvm.ClassFile.FieldType.long)) ∈ mm_gt := mm_in_gt 1265 (by decide +kernel) rfl
theorem wd_1266 : (Jvm.Cond.methodLink "LessonCardsLaw" (109 : Nat) ({ cls := "LessonCardsModel", name := "told", desc := "(II)I" } : Jvm.MethodName)) ∈ mm_gt := mm_in_gt 1266 (by decide +kernel) rfl
theorem wd_1267 : (Jvm.Cond.instanceMethod ({ cls := "LessonCardsModel", name := "told", desc := "(II)I" } : Jvm.MethodName)) ∈ mm_gt := mm_in_gt 1267 (by decide +kernel) rfl
theorem wd_1268 : (Jvm.Cond.selects "LessonCardsModel" ({ cls := "LessonCardsModel", name := "told", desc := "(II)I" } : Jvm.MethodName) ({ cls := "LessonCardsModel", name := "told", desc := "(II)I" } : Jvm.MethodName)) ∈ mm_gt := mm_in_gt 1268 (by decide +kernel) rfl
theorem wd_1269 : (Jvm.Cond.code ({ cls := "LessonCardsModel", name := "told", desc := "(II)I" } : Jvm.MethodName) prog_12_method_48_code (10 : Nat) (Option.some Jvm.ClassFile.FieldType.int)) ∈ mm_gt := mm_in_gt 1269 (by decide +kernel) rfl
theorem wd_1270 : (Jvm.Cond.constantLong "LessonCardsModel" (259 : Nat) (9 : Int64)) ∈ mm_gt := mm_in_gt 1270 (by decide +kernel) rfl
theorem wd_1271 : (Jvm.Cond.methodLink "LessonCardsLaw" (114 : Nat) ({ cls := "LessonCardsModel", name := "weight", desc := "(I)J" } : Jvm.MethodName)) ∈ mm_gt := mm_in_gt 1271 (by decide +kernel) rfl
theorem wd_1272 : (Jvm.Cond.instanceMethod ({ cls := "LessonCardsModel", name := "weight", desc := "(I)J" } : Jvm.MethodName)) ∈ mm_gt := mm_in_gt 1272 (by decide +kernel) rfl
theorem wd_1273 : (Jvm.Cond.selects "LessonCardsModel" ({ cls := "LessonCardsModel", name := "weight", desc := "(I)J" } : Jvm.MethodName) ({ cls := "LessonCardsModel", name := "weight", desc := "(I)J" } : Jvm.MethodName)) ∈ mm_gt := mm_in_gt 1273 (by decide +kernel) rfl
theorem wd_1274 : (Jvm.Cond.code ({ cls := "LessonCardsModel", name := "weight", desc := "(I)J" } : Jvm.MethodName) prog_12_method_49_code (2 : Nat) (Option.some Jvm.ClassFile.FieldType.long)) ∈ mm_gt := mm_in_gt 1274 (by decide +kernel) rfl
theorem wd_1275 : (Jvm.Cond.constantLong "LessonCardsModel" (261 : Nat) (-1 : Int64)) ∈ mm_gt := mm_in_gt 1275 (by decide +kernel) rfl
theorem wd_1276 : (Jvm.Cond.methodLink "LessonCardsLaw" (118 : Nat) ({ cls := "LessonCardsModel", name := "level", desc := "()I" } : Jvm.MethodName)) ∈ mm_gt := mm_in_gt 1276 (by decide +kernel) rfl
theorem wd_1277 : (Jvm.Cond.instanceMethod ({ cls := "LessonCardsModel", name := "level", desc := "()I" } : Jvm.MethodName)) ∈ mm_gt := mm_in_gt 1277 (by decide +kernel) rfl
theorem wd_1278 : (Jvm.Cond.selects "LessonCardsModel" ({ cls := "LessonCardsModel", name := "level", desc := "()I" } : Jvm.MethodName) ({ cls := "LessonCardsModel", name := "level", desc := "()I" } : Jvm.MethodName)) ∈ mm_gt := mm_in_gt 1278 (by decide +kernel) rfl
theorem wd_1279 : (Jvm.Cond.code ({ cls := "LessonCardsModel", name := "level", desc := "()I" } : Jvm.MethodName) prog_12_method_50_code (3 : Nat) (Option.some Jvm.ClassFile.FieldType.int)) ∈ mm_gt := mm_in_gt 1279 (by decide +kernel) rfl
theorem wd_1280 : (Jvm.Cond.methodLink "LessonCardsLaw" (122 : Nat) ({ cls := "LessonCardsModel", name := "log", desc := "()I" } : Jvm.MethodName)) ∈ mm_gt := mm_in_gt 1280 (by decide +kernel) rfl
theorem wd_1281 : (Jvm.Cond.instanceMethod ({ cls := "LessonCardsModel", name := "log", desc := "()I" } : Jvm.MethodName)) ∈ mm_gt := mm_in_gt 1281 (by decide +kernel) rfl
theorem wd_1282 : (Jvm.Cond.selects "LessonCardsModel" ({ cls := "LessonCardsModel", name := "log", desc := "()I" } : Jvm.MethodName) ({ cls := "LessonCardsModel", name := "log", desc := "()I" } : Jvm.MethodName)) ∈ mm_gt := mm_in_gt 1282 (by decide +kernel) rfl
theorem wd_1283 : (Jvm.Cond.code ({ cls := "LessonCardsModel", name := "log", desc := "()I" } : Jvm.MethodName) prog_12_method_51_code (1 : Nat) (Option.some Jvm.ClassFile.FieldType.int)) ∈ mm_gt := mm_in_gt 1283 (by decide +kernel) rfl
theorem wd_1284 : (Jvm.Cond.methodLink "LessonCardsLaw" (126 : Nat) ({ cls := "LessonCardsModel", name := "logged", desc := "(II)I" } : Jvm.MethodName)) ∈ mm_gt := mm_in_gt 1284 (by decide +kernel) rfl
theorem wd_1285 : (Jvm.Cond.instanceMethod ({ cls := "LessonCardsModel", name := "logged", desc := "(II)I" } : Jvm.MethodName)) ∈ mm_gt := mm_in_gt 1285 (by decide +kernel) rfl
theorem wd_1286 : (Jvm.Cond.selects "LessonCardsModel" ({ cls := "LessonCardsModel", name := "logged", desc := "(II)I" } : Jvm.MethodName) ({ cls := "LessonCardsModel", name := "logged", desc := "(II)I" } : Jvm.MethodName)) ∈ mm_gt := mm_in_gt 1286 (by decide +kernel) rfl
theorem wd_1287 : (Jvm.Cond.code ({ cls := "LessonCardsModel", name := "logged", desc := "(II)I" } : Jvm.MethodName) prog_12_method_52_code (4 : Nat) (Option.some Jvm.ClassFile.FieldType.int)) ∈ mm_gt := mm_in_gt 1287 (by decide +kernel) rfl
theorem wd_1288 : (Jvm.Cond.methodLink "LessonCardsLaw" (131 : Nat) ({ cls := "LessonCardsModel", name := "surprise", desc := "(II)J" } : Jvm.MethodName)) ∈ mm_gt := mm_in_gt 1288 (by decide +kernel) rfl
theorem wd_1289 : (Jvm.Cond.instanceMethod ({ cls := "LessonCardsModel", name := "surprise", desc := "(II)J" } : Jvm.MethodName)) ∈ mm_gt := mm_in_gt 1289 (by decide +kernel) rfl
theorem wd_1290 : (Jvm.Cond.selects "LessonCardsModel" ({ cls := "LessonCardsModel", name := "surprise", desc := "(II)J" } : Jvm.MethodName) ({ cls := "LessonCardsModel", name := "surprise", desc := "(II)J" } : Jvm.MethodName)) ∈ mm_gt := mm_in_gt 1290 (by decide +kernel) rfl
theorem wd_1291 : (Jvm.Cond.code ({ cls := "LessonCardsModel", name := "surprise", desc := "(II)J" } : Jvm.MethodName) prog_12_method_55_code (3 : Nat) (Option.some Jvm.ClassFile.FieldType.long)) ∈ mm_gt := mm_in_gt 1291 (by decide +kernel) rfl
theorem wd_1292 : (Jvm.Cond.methodLink "LessonCardsModel" (270 : Nat) ({ cls := "LessonCardsModel", name := "surpriseOf", desc := "(II)J" } : Jvm.MethodName)) ∈ mm_gt := mm_in_gt 1292 (by decide +kernel) rfl
theorem wd_1294 : (Jvm.Cond.instanceMethod ({ cls := "LessonCardsModel", name := "surpriseOf", desc := "(II)J" } : Jvm.MethodName)) ∈ mm_gt := mm_in_gt 1294 (by decide +kernel) rfl
theorem wd_1295 : (Jvm.Cond.code ({ cls := "LessonCardsModel", name := "surpriseOf", desc := "(II)J" } : Jvm.MethodName) prog_12_method_54_code (6 : Nat) (Option.some Jvm.ClassFile.FieldType.long)) ∈ mm_gt := mm_in_gt 1295 (by decide +kernel) rfl
theorem wd_1296 : (Jvm.Cond.methodLink "LessonCardsModel" (266 : Nat) ({ cls := "LessonCardsModel", name := "replay", desc := "(II)J" } : Jvm.MethodName)) ∈ mm_gt := mm_in_gt 1296 (by decide +kernel) rfl
theorem wd_1298 : (Jvm.Cond.instanceMethod ({ cls := "LessonCardsModel", name := "replay", desc := "(II)J" } : Jvm.MethodName)) ∈ mm_gt := mm_in_gt 1298 (by decide +kernel) rfl
theorem wd_1299 : (Jvm.Cond.code ({ cls := "LessonCardsModel", name := "replay", desc := "(II)J" } : Jvm.MethodName) prog_12_method_53_code (7 : Nat) (Option.some Jvm.ClassFile.FieldType.long)) ∈ mm_gt := mm_in_gt 1299 (by decide +kernel) rfl
theorem wd_1300 : (Jvm.Cond.methodLink "LessonCardsModel" (263 : Nat) ({ cls := "LessonCardsModel", name := "begin", desc := "()V" } : Jvm.MethodName)) ∈ mm_gt := mm_in_gt 1300 (by decide +kernel) rfl
theorem wd_1302 : (Jvm.Cond.instanceMethod ({ cls := "LessonCardsModel", name := "begin", desc := "()V" } : Jvm.MethodName)) ∈ mm_gt := mm_in_gt 1302 (by decide +kernel) rfl
theorem wd_1303 : (Jvm.Cond.code ({ cls := "LessonCardsModel", name := "begin", desc := "()V" } : Jvm.MethodName) prog_12_method_13_code (1 : Nat) (Option.none : Option Jvm.ClassFile.FieldType)) ∈ mm_gt := mm_in_gt 1303 (by decide +kernel) rfl
theorem wd_1304 : (Jvm.Cond.methodLink "LessonCardsLaw" (135 : Nat) ({ cls := "LessonCardsModel", name := "better", desc := "(I)I" } : Jvm.MethodName)) ∈ mm_gt := mm_in_gt 1304 (by decide +kernel) rfl
theorem wd_1305 : (Jvm.Cond.instanceMethod ({ cls := "LessonCardsModel", name := "better", desc := "(I)I" } : Jvm.MethodName)) ∈ mm_gt := mm_in_gt 1305 (by decide +kernel) rfl
theorem wd_1306 : (Jvm.Cond.selects "LessonCardsModel" ({ cls := "LessonCardsModel", name := "better", desc := "(I)I" } : Jvm.MethodName) ({ cls := "LessonCardsModel", name := "better", desc := "(I)I" } : Jvm.MethodName)) ∈ mm_gt := mm_in_gt 1306 (by decide +kernel) rfl
theorem wd_1307 : (Jvm.Cond.code ({ cls := "LessonCardsModel", name := "better", desc := "(I)I" } : Jvm.MethodName) prog_12_method_56_code (4 : Nat) (Option.some Jvm.ClassFile.FieldType.int)) ∈ mm_gt := mm_in_gt 1307 (by decide +kernel) rfl
theorem wd_1308 : (Jvm.Cond.methodLink "LessonCardsLaw" (139 : Nat) ({ cls := "LessonCardsModel", name := "other", desc := "(IIII)I" } : Jvm.MethodName)) ∈ mm_gt := mm_in_gt 1308 (by decide +kernel) rfl
theorem wd_1309 : (Jvm.Cond.instanceMethod ({ cls := "LessonCardsModel", name := "other", desc := "(IIII)I" } : Jvm.MethodName)) ∈ mm_gt := mm_in_gt 1309 (by decide +kernel) rfl
theorem wd_1310 : (Jvm.Cond.selects "LessonCardsModel" ({ cls := "LessonCardsModel", name := "other", desc := "(IIII)I" } : Jvm.MethodName) ({ cls := "LessonCardsModel", name := "other", desc := "(IIII)I" } : Jvm.MethodName)) ∈ mm_gt := mm_in_gt 1310 (by decide +kernel) rfl
theorem wd_1311 : (Jvm.Cond.code ({ cls := "LessonCardsModel", name := "other", desc := "(IIII)I" } : Jvm.MethodName) prog_12_method_57_code (7 : Nat) (Option.some Jvm.ClassFile.FieldType.int)) ∈ mm_gt := mm_in_gt 1311 (by decide +kernel) rfl
theorem wd_1312 : (Jvm.Cond.methodLink "LessonCardsLaw" (143 : Nat) ({ cls := "LessonCardsModel", name := "check", desc := "(I)I" } : Jvm.MethodName)) ∈ mm_gt := mm_in_gt 1312 (by decide +kernel) rfl
theorem wd_1313 : (Jvm.Cond.instanceMethod ({ cls := "LessonCardsModel", name := "check", desc := "(I)I" } : Jvm.MethodName)) ∈ mm_gt := mm_in_gt 1313 (by decide +kernel) rfl
theorem wd_1314 : (Jvm.Cond.selects "LessonCardsModel" ({ cls := "LessonCardsModel", name := "check", desc := "(I)I" } : Jvm.MethodName) ({ cls := "LessonCardsModel", name := "check", desc := "(I)I" } : Jvm.MethodName)) ∈ mm_gt := mm_in_gt 1314 (by decide +kernel) rfl
theorem wd_1315 : (Jvm.Cond.code ({ cls := "LessonCardsModel", name := "check", desc := "(I)I" } : Jvm.MethodName) prog_12_method_58_code (6 : Nat) (Option.some Jvm.ClassFile.FieldType.int)) ∈ mm_gt := mm_in_gt 1315 (by decide +kernel) rfl
theorem wd_1329 : (Jvm.Cond.selects "[Ljava/lang/Object;" ({ cls := "java/lang/Object", name := "getClass", desc := "()Ljava/lang/Class;" } : Jvm.MethodName) ({ cls := "java/lang/Object", name := "getClass", desc := "()Ljava/lang/Class;" } : Jvm.MethodName)) ∈ mm_gt := mm_in_gt 1329 (by decide +kernel) rfl
theorem wn_1330 : (Jvm.Cond.declares ({ cls := "java/lang/Object", name := "getClass", desc := "()Ljava/lang/Class;" } : Jvm.MethodName)) ∈ mm_nt := mm_in_nt 1330 (by decide +kernel) rfl
theorem cf_X0_9 : mm_F "LessonCards$Card" 9 1 0 true 1 := ⟨RX0, TX0, 2, tyX0, "LessonCards$Card", rfl, by decide, by decide, rfl, in_X0, tyX0_ok, nmX0, rfl, Or.inl rfl, Or.inl wd_370, rfl, (fun h => by cases h), (fun h => by cases h), (fun _ => Or.inr ⟨_, rfl⟩)⟩
theorem cf_X0_15 : mm_F "LessonCards$Card" 15 1 1 false 0 := ⟨RX0, TX0, 2, tyX0, "LessonCards$Card", rfl, by decide, by decide, rfl, in_X0, tyX0_ok, nmX0, rfl, Or.inl rfl, Or.inl wd_373, rfl, (fun _ => rfl), (fun h => by cases h), (fun h => by cases h)⟩
theorem cf_X1_11 : mm_F "LessonCards$Curve" 11 2 0 true 1 := ⟨RX1, TX1, 2, tyX1, "LessonCards$Curve", rfl, by decide, by decide, rfl, in_X1, tyX1_ok, nmX1, rfl, Or.inl rfl, Or.inl wd_80, rfl, (fun h => by cases h), (fun h => by cases h), (fun _ => Or.inr ⟨_, rfl⟩)⟩
theorem cf_X1_15 : mm_F "LessonCards$Curve" 15 2 1 true 0 := ⟨RX1, TX1, 2, tyX1, "LessonCards$Curve", rfl, by decide, by decide, rfl, in_X1, tyX1_ok, nmX1, rfl, Or.inl rfl, Or.inl wd_81, rfl, (fun _ => rfl), (fun h => by cases h), (fun h => by cases h)⟩
theorem cf_Jxc12de_7 : mm_F "java/util/AbstractList" 7 0 0 false 0 := ⟨RJx4a65c, TJx4a65c, 3, tyJx4a65c, "java/util/AbstractList", rfl, by decide, by decide, rfl, in_Jx4a65c, tyJx4a65c_ok, nmJx4a65c, rfl, Or.inl rfl, Or.inl wd_111, rfl, (fun _ => rfl), (fun h => by cases h), (fun h => by cases h)⟩
theorem cf_Jx4a65c_9 : mm_F "java/util/ArrayList" 9 0 1 false 1 := ⟨RJx4a65c, TJx4a65c, 3, tyJx4a65c, "java/util/ArrayList", rfl, by decide, by decide, rfl, in_Jx4a65c, tyJx4a65c_ok, nmJx4a65c, rfl, Or.inl rfl, Or.inl wd_109, rfl, (fun h => by cases h), (fun h => by cases h), (fun _ => Or.inr ⟨_, rfl⟩)⟩
theorem cf_X2_12 : mm_F "LessonCards$Deck" 12 3 0 true 1 := ⟨RX2, TX2, 3, tyX2, "LessonCards$Deck", rfl, by decide, by decide, rfl, in_X2, tyX2_ok, nmX2, rfl, Or.inl rfl, Or.inl wd_121, rfl, (fun h => by cases h), (fun h => by cases h), (fun _ => Or.inl ⟨_, rfl⟩)⟩
theorem cf_X2_18 : mm_F "LessonCards$Deck" 18 3 1 true 1 := ⟨RX2, TX2, 3, tyX2, "LessonCards$Deck", rfl, by decide, by decide, rfl, in_X2, tyX2_ok, nmX2, rfl, Or.inl rfl, Or.inl wd_122, rfl, (fun h => by cases h), (fun h => by cases h), (fun _ => Or.inr ⟨_, rfl⟩)⟩
theorem cf_X2_22 : mm_F "LessonCards$Deck" 22 3 2 true 1 := ⟨RX2, TX2, 3, tyX2, "LessonCards$Deck", rfl, by decide, by decide, rfl, in_X2, tyX2_ok, nmX2, rfl, Or.inl rfl, Or.inl wd_123, rfl, (fun h => by cases h), (fun h => by cases h), (fun _ => Or.inr ⟨_, rfl⟩)⟩
theorem cf_Jx4a65c_48 : mm_F "java/util/ArrayList" 48 0 2 false 0 := ⟨RJx4a65c, TJx4a65c, 3, tyJx4a65c, "java/util/ArrayList", rfl, by decide, by decide, rfl, in_Jx4a65c, tyJx4a65c_ok, nmJx4a65c, rfl, Or.inl rfl, Or.inl wd_110, rfl, (fun _ => rfl), (fun h => by cases h), (fun h => by cases h)⟩
theorem cf_Jx4a65c_63 : mm_F "java/util/ArrayList" 63 0 0 false 0 := ⟨RJx4a65c, TJx4a65c, 3, tyJx4a65c, "java/util/ArrayList", rfl, by decide, by decide, rfl, in_Jx4a65c, tyJx4a65c_ok, nmJx4a65c, rfl, Or.inr wd_113, Or.inl wd_112, rfl, (fun _ => rfl), (fun h => by cases h), (fun h => by cases h)⟩
theorem cf_X2_49 : mm_F "LessonCards$Deck" 49 1 1 false 0 := ⟨RX0, TX0, 2, tyX0, "LessonCards$Card", rfl, by decide, by decide, rfl, in_X0, tyX0_ok, nmX0, rfl, Or.inl rfl, Or.inr ⟨trivial, _, wn_374⟩, rfl, (fun _ => rfl), (fun h => by cases h), (fun h => by cases h)⟩
theorem cf_X2_53 : mm_F "LessonCards$Deck" 53 1 0 true 1 := ⟨RX0, TX0, 2, tyX0, "LessonCards$Card", rfl, by decide, by decide, rfl, in_X0, tyX0_ok, nmX0, rfl, Or.inl rfl, Or.inr ⟨trivial, _, wn_371⟩, rfl, (fun h => by cases h), (fun h => by cases h), (fun _ => Or.inr ⟨_, rfl⟩)⟩
theorem cf_X3_9 : mm_F "LessonCards$Entry" 9 4 0 true 0 := ⟨RX3, TX3, 7, tyX3, "LessonCards$Entry", rfl, by decide, by decide, rfl, in_X3, tyX3_ok, nmX3, rfl, Or.inl rfl, Or.inl wd_588, rfl, (fun _ => rfl), (fun h => by cases h), (fun h => by cases h)⟩
theorem cf_X3_15 : mm_F "LessonCards$Entry" 15 4 1 true 0 := ⟨RX3, TX3, 7, tyX3, "LessonCards$Entry", rfl, by decide, by decide, rfl, in_X3, tyX3_ok, nmX3, rfl, Or.inl rfl, Or.inl wd_590, rfl, (fun _ => rfl), (fun h => by cases h), (fun h => by cases h)⟩
theorem cf_X3_18 : mm_F "LessonCards$Entry" 18 4 2 true 0 := ⟨RX3, TX3, 7, tyX3, "LessonCards$Entry", rfl, by decide, by decide, rfl, in_X3, tyX3_ok, nmX3, rfl, Or.inl rfl, Or.inl wd_592, rfl, (fun _ => rfl), (fun h => by cases h), (fun h => by cases h)⟩
theorem cf_X3_21 : mm_F "LessonCards$Entry" 21 4 3 true 0 := ⟨RX3, TX3, 7, tyX3, "LessonCards$Entry", rfl, by decide, by decide, rfl, in_X3, tyX3_ok, nmX3, rfl, Or.inl rfl, Or.inl wd_594, rfl, (fun _ => rfl), (fun h => by cases h), (fun h => by cases h)⟩
theorem cf_X3_24 : mm_F "LessonCards$Entry" 24 4 4 true 0 := ⟨RX3, TX3, 7, tyX3, "LessonCards$Entry", rfl, by decide, by decide, rfl, in_X3, tyX3_ok, nmX3, rfl, Or.inl rfl, Or.inl wd_596, rfl, (fun _ => rfl), (fun h => by cases h), (fun h => by cases h)⟩
theorem cf_X3_27 : mm_F "LessonCards$Entry" 27 4 5 true 0 := ⟨RX3, TX3, 7, tyX3, "LessonCards$Entry", rfl, by decide, by decide, rfl, in_X3, tyX3_ok, nmX3, rfl, Or.inl rfl, Or.inl wd_598, rfl, (fun _ => rfl), (fun h => by cases h), (fun h => by cases h)⟩
theorem cf_X3_30 : mm_F "LessonCards$Entry" 30 4 6 true 1 := ⟨RX3, TX3, 7, tyX3, "LessonCards$Entry", rfl, by decide, by decide, rfl, in_X3, tyX3_ok, nmX3, rfl, Or.inl rfl, Or.inl wd_600, rfl, (fun h => by cases h), (fun h => by cases h), (fun _ => Or.inl ⟨_, rfl⟩)⟩
theorem cf_X4_9 : mm_F "LessonCards$Evening" 9 5 0 true 1 := ⟨RX4, TX4, 5, tyX4, "LessonCards$Evening", rfl, by decide, by decide, rfl, in_X4, tyX4_ok, nmX4, rfl, Or.inl rfl, Or.inl wd_165, rfl, (fun h => by cases h), (fun h => by cases h), (fun _ => Or.inr ⟨_, rfl⟩)⟩
theorem cf_X4_15 : mm_F "LessonCards$Evening" 15 5 2 true 1 := ⟨RX4, TX4, 5, tyX4, "LessonCards$Evening", rfl, by decide, by decide, rfl, in_X4, tyX4_ok, nmX4, rfl, Or.inl rfl, Or.inl wd_167, rfl, (fun h => by cases h), (fun h => by cases h), (fun _ => Or.inr ⟨_, rfl⟩)⟩
theorem cf_X4_18 : mm_F "LessonCards$Evening" 18 5 3 true 1 := ⟨RX4, TX4, 5, tyX4, "LessonCards$Evening", rfl, by decide, by decide, rfl, in_X4, tyX4_ok, nmX4, rfl, Or.inl rfl, Or.inl wd_168, rfl, (fun h => by cases h), (fun h => by cases h), (fun _ => Or.inr ⟨_, rfl⟩)⟩
theorem cf_X6_12 : mm_F "LessonCards$Learner" 12 7 0 true 1 := ⟨RX6, TX6, 4, tyX6, "LessonCards$Learner", rfl, by decide, by decide, rfl, in_X6, tyX6_ok, nmX6, rfl, Or.inl rfl, Or.inl wd_141, rfl, (fun h => by cases h), (fun h => by cases h), (fun _ => Or.inl ⟨_, rfl⟩)⟩
theorem cf_X5_11 : mm_F "LessonCards$Hand" 11 6 0 true 1 := ⟨RX5, TX5, 1, tyX5, "LessonCards$Hand", rfl, by decide, by decide, rfl, in_X5, tyX5_ok, nmX5, rfl, Or.inl rfl, Or.inl wd_297, rfl, (fun h => by cases h), (fun h => by cases h), (fun _ => Or.inr ⟨_, rfl⟩)⟩
theorem cf_X8_23 : mm_F "LessonCards$Memory" 23 9 0 false 0 := ⟨RX8, TX8, 7, tyX8, "LessonCards$Memory", rfl, by decide, by decide, rfl, in_X8, tyX8_ok, nmX8, rfl, Or.inl rfl, Or.inl wd_272, rfl, (fun _ => rfl), (fun h => by cases h), (fun h => by cases h)⟩
theorem cf_X8_29 : mm_F "LessonCards$Memory" 29 9 4 false 0 := ⟨RX8, TX8, 7, tyX8, "LessonCards$Memory", rfl, by decide, by decide, rfl, in_X8, tyX8_ok, nmX8, rfl, Or.inl rfl, Or.inl wd_277, rfl, (fun _ => rfl), (fun h => by cases h), (fun h => by cases h)⟩
theorem cf_X8_63 : mm_F "LessonCards$Memory" 63 2 1 true 0 := ⟨RX1, TX1, 2, tyX1, "LessonCards$Curve", rfl, by decide, by decide, rfl, in_X1, tyX1_ok, nmX1, rfl, Or.inl rfl, Or.inr ⟨trivial, _, wn_82⟩, rfl, (fun _ => rfl), (fun h => by cases h), (fun h => by cases h)⟩
theorem cf_X8_15 : mm_F "LessonCards$Memory" 15 9 3 false 0 := ⟨RX8, TX8, 7, tyX8, "LessonCards$Memory", rfl, by decide, by decide, rfl, in_X8, tyX8_ok, nmX8, rfl, Or.inl rfl, Or.inl wd_276, rfl, (fun _ => rfl), (fun h => by cases h), (fun h => by cases h)⟩
theorem cf_X4_21 : mm_F "LessonCards$Evening" 21 5 1 false 0 := ⟨RX4, TX4, 5, tyX4, "LessonCards$Evening", rfl, by decide, by decide, rfl, in_X4, tyX4_ok, nmX4, rfl, Or.inl rfl, Or.inl wd_166, rfl, (fun _ => rfl), (fun h => by cases h), (fun h => by cases h)⟩
theorem cf_X4_48 : mm_F "LessonCards$Evening" 48 5 4 false 2 := ⟨RX4, TX4, 5, tyX4, "LessonCards$Evening", rfl, by decide, by decide, rfl, in_X4, tyX4_ok, nmX4, rfl, Or.inl rfl, Or.inl wd_169, rfl, (fun h => by cases h), (fun _ => rfl), (fun h => by cases h)⟩
theorem cf_X4_37 : mm_F "LessonCards$Evening" 37 7 3 false 0 := ⟨RX6, TX6, 4, tyX6, "LessonCards$Learner", rfl, by decide, by decide, rfl, in_X6, tyX6_ok, nmX6, rfl, Or.inl rfl, Or.inr ⟨trivial, _, wn_145⟩, rfl, (fun _ => rfl), (fun h => by cases h), (fun h => by cases h)⟩
theorem cf_X8_9 : mm_F "LessonCards$Memory" 9 9 1 false 0 := ⟨RX8, TX8, 7, tyX8, "LessonCards$Memory", rfl, by decide, by decide, rfl, in_X8, tyX8_ok, nmX8, rfl, Or.inl rfl, Or.inl wd_274, rfl, (fun _ => rfl), (fun h => by cases h), (fun h => by cases h)⟩
theorem cf_X8_26 : mm_F "LessonCards$Memory" 26 9 2 false 0 := ⟨RX8, TX8, 7, tyX8, "LessonCards$Memory", rfl, by decide, by decide, rfl, in_X8, tyX8_ok, nmX8, rfl, Or.inl rfl, Or.inl wd_275, rfl, (fun _ => rfl), (fun h => by cases h), (fun h => by cases h)⟩
theorem cf_X5_26 : mm_F "LessonCards$Hand" 26 9 5 false 2 := ⟨RX8, TX8, 7, tyX8, "LessonCards$Memory", rfl, by decide, by decide, rfl, in_X8, tyX8_ok, nmX8, rfl, Or.inl rfl, Or.inr ⟨trivial, _, wn_278⟩, rfl, (fun h => by cases h), (fun _ => rfl), (fun h => by cases h)⟩
theorem cf_X8_32 : mm_F "LessonCards$Memory" 32 9 5 false 2 := ⟨RX8, TX8, 7, tyX8, "LessonCards$Memory", rfl, by decide, by decide, rfl, in_X8, tyX8_ok, nmX8, rfl, Or.inl rfl, Or.inl wd_279, rfl, (fun h => by cases h), (fun _ => rfl), (fun h => by cases h)⟩
theorem cf_X8_36 : mm_F "LessonCards$Memory" 36 9 6 false 0 := ⟨RX8, TX8, 7, tyX8, "LessonCards$Memory", rfl, by decide, by decide, rfl, in_X8, tyX8_ok, nmX8, rfl, Or.inl rfl, Or.inl wd_281, rfl, (fun _ => rfl), (fun h => by cases h), (fun h => by cases h)⟩
theorem cf_X6_18 : mm_F "LessonCards$Learner" 18 7 1 true 1 := ⟨RX6, TX6, 4, tyX6, "LessonCards$Learner", rfl, by decide, by decide, rfl, in_X6, tyX6_ok, nmX6, rfl, Or.inl rfl, Or.inl wd_142, rfl, (fun h => by cases h), (fun h => by cases h), (fun _ => Or.inr ⟨_, rfl⟩)⟩
theorem cf_X6_47 : mm_F "LessonCards$Learner" 47 7 3 false 0 := ⟨RX6, TX6, 4, tyX6, "LessonCards$Learner", rfl, by decide, by decide, rfl, in_X6, tyX6_ok, nmX6, rfl, Or.inl rfl, Or.inl wd_146, rfl, (fun _ => rfl), (fun h => by cases h), (fun h => by cases h)⟩
theorem cf_X6_51 : mm_F "LessonCards$Learner" 51 7 2 false 0 := ⟨RX6, TX6, 4, tyX6, "LessonCards$Learner", rfl, by decide, by decide, rfl, in_X6, tyX6_ok, nmX6, rfl, Or.inl rfl, Or.inl wd_143, rfl, (fun _ => rfl), (fun h => by cases h), (fun h => by cases h)⟩
theorem cf_X6_124 : mm_F "LessonCards$Learner" 124 1 1 false 0 := ⟨RX0, TX0, 2, tyX0, "LessonCards$Card", rfl, by decide, by decide, rfl, in_X0, tyX0_ok, nmX0, rfl, Or.inl rfl, Or.inr ⟨trivial, _, wn_375⟩, rfl, (fun _ => rfl), (fun h => by cases h), (fun h => by cases h)⟩
theorem cf_X6_129 : mm_F "LessonCards$Learner" 129 1 0 true 1 := ⟨RX0, TX0, 2, tyX0, "LessonCards$Card", rfl, by decide, by decide, rfl, in_X0, tyX0_ok, nmX0, rfl, Or.inl rfl, Or.inr ⟨trivial, _, wn_372⟩, rfl, (fun h => by cases h), (fun h => by cases h), (fun _ => Or.inr ⟨_, rfl⟩)⟩
theorem cf_X7_9 : mm_F "LessonCards$LevelTest" 9 8 0 true 1 := ⟨RX7, TX7, 6, tyX7, "LessonCards$LevelTest", rfl, by decide, by decide, rfl, in_X7, tyX7_ok, nmX7, rfl, Or.inl rfl, Or.inl wd_187, rfl, (fun h => by cases h), (fun h => by cases h), (fun _ => Or.inr ⟨_, rfl⟩)⟩
theorem cf_X7_15 : mm_F "LessonCards$LevelTest" 15 8 5 false 2 := ⟨RX7, TX7, 6, tyX7, "LessonCards$LevelTest", rfl, by decide, by decide, rfl, in_X7, tyX7_ok, nmX7, rfl, Or.inl rfl, Or.inl wd_193, rfl, (fun h => by cases h), (fun _ => rfl), (fun h => by cases h)⟩
theorem cf_X7_25 : mm_F "LessonCards$LevelTest" 25 8 1 false 0 := ⟨RX7, TX7, 6, tyX7, "LessonCards$LevelTest", rfl, by decide, by decide, rfl, in_X7, tyX7_ok, nmX7, rfl, Or.inl rfl, Or.inl wd_188, rfl, (fun _ => rfl), (fun h => by cases h), (fun h => by cases h)⟩
theorem cf_X7_29 : mm_F "LessonCards$LevelTest" 29 8 2 false 0 := ⟨RX7, TX7, 6, tyX7, "LessonCards$LevelTest", rfl, by decide, by decide, rfl, in_X7, tyX7_ok, nmX7, rfl, Or.inl rfl, Or.inl wd_190, rfl, (fun _ => rfl), (fun h => by cases h), (fun h => by cases h)⟩
theorem cf_X7_32 : mm_F "LessonCards$LevelTest" 32 8 3 false 0 := ⟨RX7, TX7, 6, tyX7, "LessonCards$LevelTest", rfl, by decide, by decide, rfl, in_X7, tyX7_ok, nmX7, rfl, Or.inl rfl, Or.inl wd_191, rfl, (fun _ => rfl), (fun h => by cases h), (fun h => by cases h)⟩
theorem cf_X7_35 : mm_F "LessonCards$LevelTest" 35 8 4 false 0 := ⟨RX7, TX7, 6, tyX7, "LessonCards$LevelTest", rfl, by decide, by decide, rfl, in_X7, tyX7_ok, nmX7, rfl, Or.inl rfl, Or.inl wd_192, rfl, (fun _ => rfl), (fun h => by cases h), (fun h => by cases h)⟩
theorem cf_X9_12 : mm_F "LessonCards" 12 10 0 true 1 := ⟨RX9, TX9, 11, tyX9, "LessonCards", rfl, by decide, by decide, rfl, in_X9, tyX9_ok, nmX9, rfl, Or.inl rfl, Or.inl wd_209, rfl, (fun h => by cases h), (fun h => by cases h), (fun _ => Or.inl ⟨_, rfl⟩)⟩
theorem cf_X9_19 : mm_F "LessonCards" 19 10 1 true 1 := ⟨RX9, TX9, 11, tyX9, "LessonCards", rfl, by decide, by decide, rfl, in_X9, tyX9_ok, nmX9, rfl, Or.inl rfl, Or.inl wd_210, rfl, (fun h => by cases h), (fun h => by cases h), (fun _ => Or.inl ⟨_, rfl⟩)⟩
theorem cf_X9_25 : mm_F "LessonCards" 25 10 2 true 1 := ⟨RX9, TX9, 11, tyX9, "LessonCards", rfl, by decide, by decide, rfl, in_X9, tyX9_ok, nmX9, rfl, Or.inl rfl, Or.inl wd_211, rfl, (fun h => by cases h), (fun h => by cases h), (fun _ => Or.inr ⟨_, rfl⟩)⟩
theorem cf_X9_30 : mm_F "LessonCards" 30 10 3 true 1 := ⟨RX9, TX9, 11, tyX9, "LessonCards", rfl, by decide, by decide, rfl, in_X9, tyX9_ok, nmX9, rfl, Or.inl rfl, Or.inl wd_212, rfl, (fun h => by cases h), (fun h => by cases h), (fun _ => Or.inl ⟨_, rfl⟩)⟩
theorem cf_X9_37 : mm_F "LessonCards" 37 10 4 true 1 := ⟨RX9, TX9, 11, tyX9, "LessonCards", rfl, by decide, by decide, rfl, in_X9, tyX9_ok, nmX9, rfl, Or.inl rfl, Or.inl wd_213, rfl, (fun h => by cases h), (fun h => by cases h), (fun _ => Or.inl ⟨_, rfl⟩)⟩
theorem cf_X9_44 : mm_F "LessonCards" 44 10 5 true 1 := ⟨RX9, TX9, 11, tyX9, "LessonCards", rfl, by decide, by decide, rfl, in_X9, tyX9_ok, nmX9, rfl, Or.inl rfl, Or.inl wd_214, rfl, (fun h => by cases h), (fun h => by cases h), (fun _ => Or.inl ⟨_, rfl⟩)⟩
theorem cf_X9_51 : mm_F "LessonCards" 51 10 6 true 1 := ⟨RX9, TX9, 11, tyX9, "LessonCards", rfl, by decide, by decide, rfl, in_X9, tyX9_ok, nmX9, rfl, Or.inl rfl, Or.inl wd_215, rfl, (fun h => by cases h), (fun h => by cases h), (fun _ => Or.inl ⟨_, rfl⟩)⟩
theorem cf_X9_55 : mm_F "LessonCards" 55 10 7 true 1 := ⟨RX9, TX9, 11, tyX9, "LessonCards", rfl, by decide, by decide, rfl, in_X9, tyX9_ok, nmX9, rfl, Or.inl rfl, Or.inl wd_216, rfl, (fun h => by cases h), (fun h => by cases h), (fun _ => Or.inr ⟨_, rfl⟩)⟩
theorem cf_X9_59 : mm_F "LessonCards" 59 10 8 false 0 := ⟨RX9, TX9, 11, tyX9, "LessonCards", rfl, by decide, by decide, rfl, in_X9, tyX9_ok, nmX9, rfl, Or.inl rfl, Or.inl wd_217, rfl, (fun _ => rfl), (fun h => by cases h), (fun h => by cases h)⟩
theorem cf_X9_63 : mm_F "LessonCards" 63 10 9 false 0 := ⟨RX9, TX9, 11, tyX9, "LessonCards", rfl, by decide, by decide, rfl, in_X9, tyX9_ok, nmX9, rfl, Or.inl rfl, Or.inl wd_218, rfl, (fun _ => rfl), (fun h => by cases h), (fun h => by cases h)⟩
theorem cf_X9_66 : mm_F "LessonCards" 66 10 10 false 0 := ⟨RX9, TX9, 11, tyX9, "LessonCards", rfl, by decide, by decide, rfl, in_X9, tyX9_ok, nmX9, rfl, Or.inl rfl, Or.inl wd_219, rfl, (fun _ => rfl), (fun h => by cases h), (fun h => by cases h)⟩
theorem cf_X9_108 : mm_F "LessonCards" 108 7 3 false 0 := ⟨RX6, TX6, 4, tyX6, "LessonCards$Learner", rfl, by decide, by decide, rfl, in_X6, tyX6_ok, nmX6, rfl, Or.inl rfl, Or.inr ⟨trivial, _, wn_147⟩, rfl, (fun _ => rfl), (fun h => by cases h), (fun h => by cases h)⟩
theorem cf_X9_114 : mm_F "LessonCards" 114 7 2 false 0 := ⟨RX6, TX6, 4, tyX6, "LessonCards$Learner", rfl, by decide, by decide, rfl, in_X6, tyX6_ok, nmX6, rfl, Or.inl rfl, Or.inr ⟨trivial, _, wn_144⟩, rfl, (fun _ => rfl), (fun h => by cases h), (fun h => by cases h)⟩
theorem cf_X9_166 : mm_F "LessonCards" 166 9 5 false 2 := ⟨RX8, TX8, 7, tyX8, "LessonCards$Memory", rfl, by decide, by decide, rfl, in_X8, tyX8_ok, nmX8, rfl, Or.inl rfl, Or.inr ⟨trivial, _, wn_280⟩, rfl, (fun h => by cases h), (fun _ => rfl), (fun h => by cases h)⟩
theorem cf_X9_184 : mm_F "LessonCards" 184 4 0 true 0 := ⟨RX3, TX3, 7, tyX3, "LessonCards$Entry", rfl, by decide, by decide, rfl, in_X3, tyX3_ok, nmX3, rfl, Or.inl rfl, Or.inr ⟨trivial, _, wn_589⟩, rfl, (fun _ => rfl), (fun h => by cases h), (fun h => by cases h)⟩
theorem cf_X9_187 : mm_F "LessonCards" 187 4 1 true 0 := ⟨RX3, TX3, 7, tyX3, "LessonCards$Entry", rfl, by decide, by decide, rfl, in_X3, tyX3_ok, nmX3, rfl, Or.inl rfl, Or.inr ⟨trivial, _, wn_591⟩, rfl, (fun _ => rfl), (fun h => by cases h), (fun h => by cases h)⟩
theorem cf_X9_190 : mm_F "LessonCards" 190 4 6 true 1 := ⟨RX3, TX3, 7, tyX3, "LessonCards$Entry", rfl, by decide, by decide, rfl, in_X3, tyX3_ok, nmX3, rfl, Or.inl rfl, Or.inr ⟨trivial, _, wn_601⟩, rfl, (fun h => by cases h), (fun h => by cases h), (fun _ => Or.inl ⟨_, rfl⟩)⟩
theorem cf_X9_262 : mm_F "LessonCards" 262 8 5 false 2 := ⟨RX7, TX7, 6, tyX7, "LessonCards$LevelTest", rfl, by decide, by decide, rfl, in_X7, tyX7_ok, nmX7, rfl, Or.inl rfl, Or.inr ⟨trivial, _, wn_194⟩, rfl, (fun h => by cases h), (fun _ => rfl), (fun h => by cases h)⟩
theorem cf_X9_265 : mm_F "LessonCards" 265 8 1 false 0 := ⟨RX7, TX7, 6, tyX7, "LessonCards$LevelTest", rfl, by decide, by decide, rfl, in_X7, tyX7_ok, nmX7, rfl, Or.inl rfl, Or.inr ⟨trivial, _, wn_189⟩, rfl, (fun _ => rfl), (fun h => by cases h), (fun h => by cases h)⟩
theorem cf_X9_312 : mm_F "LessonCards" 312 4 3 true 0 := ⟨RX3, TX3, 7, tyX3, "LessonCards$Entry", rfl, by decide, by decide, rfl, in_X3, tyX3_ok, nmX3, rfl, Or.inl rfl, Or.inr ⟨trivial, _, wn_595⟩, rfl, (fun _ => rfl), (fun h => by cases h), (fun h => by cases h)⟩
theorem cf_X9_309 : mm_F "LessonCards" 309 4 2 true 0 := ⟨RX3, TX3, 7, tyX3, "LessonCards$Entry", rfl, by decide, by decide, rfl, in_X3, tyX3_ok, nmX3, rfl, Or.inl rfl, Or.inr ⟨trivial, _, wn_593⟩, rfl, (fun _ => rfl), (fun h => by cases h), (fun h => by cases h)⟩
theorem cf_X9_319 : mm_F "LessonCards" 319 4 4 true 0 := ⟨RX3, TX3, 7, tyX3, "LessonCards$Entry", rfl, by decide, by decide, rfl, in_X3, tyX3_ok, nmX3, rfl, Or.inl rfl, Or.inr ⟨trivial, _, wn_597⟩, rfl, (fun _ => rfl), (fun h => by cases h), (fun h => by cases h)⟩
theorem cf_X9_322 : mm_F "LessonCards" 322 4 5 true 0 := ⟨RX3, TX3, 7, tyX3, "LessonCards$Entry", rfl, by decide, by decide, rfl, in_X3, tyX3_ok, nmX3, rfl, Or.inl rfl, Or.inr ⟨trivial, _, wn_599⟩, rfl, (fun _ => rfl), (fun h => by cases h), (fun h => by cases h)⟩
theorem cf_X9_289 : mm_F "LessonCards" 289 9 0 false 0 := ⟨RX8, TX8, 7, tyX8, "LessonCards$Memory", rfl, by decide, by decide, rfl, in_X8, tyX8_ok, nmX8, rfl, Or.inl rfl, Or.inr ⟨trivial, _, wn_273⟩, rfl, (fun _ => rfl), (fun h => by cases h), (fun h => by cases h)⟩
theorem cf_X10_9 : mm_F "LessonCardsModel" 9 11 0 true 1 := ⟨RX10, TX10, 48, tyX10, "LessonCardsModel", rfl, by decide, by decide, rfl, in_X10, tyX10_ok, nmX10, rfl, Or.inl rfl, Or.inl wd_935, rfl, (fun h => by cases h), (fun h => by cases h), (fun _ => Or.inr ⟨_, rfl⟩)⟩
theorem cf_X10_13 : mm_F "LessonCardsModel" 13 11 1 true 1 := ⟨RX10, TX10, 48, tyX10, "LessonCardsModel", rfl, by decide, by decide, rfl, in_X10, tyX10_ok, nmX10, rfl, Or.inl rfl, Or.inl wd_936, rfl, (fun h => by cases h), (fun h => by cases h), (fun _ => Or.inr ⟨_, rfl⟩)⟩
theorem cf_X10_16 : mm_F "LessonCardsModel" 16 11 2 true 1 := ⟨RX10, TX10, 48, tyX10, "LessonCardsModel", rfl, by decide, by decide, rfl, in_X10, tyX10_ok, nmX10, rfl, Or.inl rfl, Or.inl wd_937, rfl, (fun h => by cases h), (fun h => by cases h), (fun _ => Or.inr ⟨_, rfl⟩)⟩
theorem cf_X10_19 : mm_F "LessonCardsModel" 19 11 5 true 1 := ⟨RX10, TX10, 48, tyX10, "LessonCardsModel", rfl, by decide, by decide, rfl, in_X10, tyX10_ok, nmX10, rfl, Or.inl rfl, Or.inl wd_940, rfl, (fun h => by cases h), (fun h => by cases h), (fun _ => Or.inr ⟨_, rfl⟩)⟩
theorem cf_X10_22 : mm_F "LessonCardsModel" 22 11 6 false 0 := ⟨RX10, TX10, 48, tyX10, "LessonCardsModel", rfl, by decide, by decide, rfl, in_X10, tyX10_ok, nmX10, rfl, Or.inl rfl, Or.inl wd_941, rfl, (fun _ => rfl), (fun h => by cases h), (fun h => by cases h)⟩
theorem cf_X10_26 : mm_F "LessonCardsModel" 26 11 7 false 0 := ⟨RX10, TX10, 48, tyX10, "LessonCardsModel", rfl, by decide, by decide, rfl, in_X10, tyX10_ok, nmX10, rfl, Or.inl rfl, Or.inl wd_942, rfl, (fun _ => rfl), (fun h => by cases h), (fun h => by cases h)⟩
theorem cf_X10_29 : mm_F "LessonCardsModel" 29 11 8 true 1 := ⟨RX10, TX10, 48, tyX10, "LessonCardsModel", rfl, by decide, by decide, rfl, in_X10, tyX10_ok, nmX10, rfl, Or.inl rfl, Or.inl wd_943, rfl, (fun h => by cases h), (fun h => by cases h), (fun _ => Or.inr ⟨_, rfl⟩)⟩
theorem cf_X10_32 : mm_F "LessonCardsModel" 32 11 9 true 1 := ⟨RX10, TX10, 48, tyX10, "LessonCardsModel", rfl, by decide, by decide, rfl, in_X10, tyX10_ok, nmX10, rfl, Or.inl rfl, Or.inl wd_944, rfl, (fun h => by cases h), (fun h => by cases h), (fun _ => Or.inr ⟨_, rfl⟩)⟩
theorem cf_X10_35 : mm_F "LessonCardsModel" 35 11 10 true 1 := ⟨RX10, TX10, 48, tyX10, "LessonCardsModel", rfl, by decide, by decide, rfl, in_X10, tyX10_ok, nmX10, rfl, Or.inl rfl, Or.inl wd_945, rfl, (fun h => by cases h), (fun h => by cases h), (fun _ => Or.inr ⟨_, rfl⟩)⟩
theorem cf_X10_38 : mm_F "LessonCardsModel" 38 11 11 true 1 := ⟨RX10, TX10, 48, tyX10, "LessonCardsModel", rfl, by decide, by decide, rfl, in_X10, tyX10_ok, nmX10, rfl, Or.inl rfl, Or.inl wd_946, rfl, (fun h => by cases h), (fun h => by cases h), (fun _ => Or.inr ⟨_, rfl⟩)⟩
theorem cf_X10_41 : mm_F "LessonCardsModel" 41 11 12 true 1 := ⟨RX10, TX10, 48, tyX10, "LessonCardsModel", rfl, by decide, by decide, rfl, in_X10, tyX10_ok, nmX10, rfl, Or.inl rfl, Or.inl wd_947, rfl, (fun h => by cases h), (fun h => by cases h), (fun _ => Or.inr ⟨_, rfl⟩)⟩
theorem cf_X10_45 : mm_F "LessonCardsModel" 45 11 13 true 1 := ⟨RX10, TX10, 48, tyX10, "LessonCardsModel", rfl, by decide, by decide, rfl, in_X10, tyX10_ok, nmX10, rfl, Or.inl rfl, Or.inl wd_948, rfl, (fun h => by cases h), (fun h => by cases h), (fun _ => Or.inr ⟨_, rfl⟩)⟩
theorem cf_X10_48 : mm_F "LessonCardsModel" 48 11 14 true 1 := ⟨RX10, TX10, 48, tyX10, "LessonCardsModel", rfl, by decide, by decide, rfl, in_X10, tyX10_ok, nmX10, rfl, Or.inl rfl, Or.inl wd_949, rfl, (fun h => by cases h), (fun h => by cases h), (fun _ => Or.inr ⟨_, rfl⟩)⟩
theorem cf_X10_51 : mm_F "LessonCardsModel" 51 11 15 true 1 := ⟨RX10, TX10, 48, tyX10, "LessonCardsModel", rfl, by decide, by decide, rfl, in_X10, tyX10_ok, nmX10, rfl, Or.inl rfl, Or.inl wd_950, rfl, (fun h => by cases h), (fun h => by cases h), (fun _ => Or.inr ⟨_, rfl⟩)⟩
theorem cf_X10_54 : mm_F "LessonCardsModel" 54 11 16 true 1 := ⟨RX10, TX10, 48, tyX10, "LessonCardsModel", rfl, by decide, by decide, rfl, in_X10, tyX10_ok, nmX10, rfl, Or.inl rfl, Or.inl wd_951, rfl, (fun h => by cases h), (fun h => by cases h), (fun _ => Or.inr ⟨_, rfl⟩)⟩
theorem cf_X10_57 : mm_F "LessonCardsModel" 57 11 17 true 1 := ⟨RX10, TX10, 48, tyX10, "LessonCardsModel", rfl, by decide, by decide, rfl, in_X10, tyX10_ok, nmX10, rfl, Or.inl rfl, Or.inl wd_952, rfl, (fun h => by cases h), (fun h => by cases h), (fun _ => Or.inr ⟨_, rfl⟩)⟩
theorem cf_X10_60 : mm_F "LessonCardsModel" 60 11 18 true 1 := ⟨RX10, TX10, 48, tyX10, "LessonCardsModel", rfl, by decide, by decide, rfl, in_X10, tyX10_ok, nmX10, rfl, Or.inl rfl, Or.inl wd_953, rfl, (fun h => by cases h), (fun h => by cases h), (fun _ => Or.inr ⟨_, rfl⟩)⟩
theorem cf_X10_63 : mm_F "LessonCardsModel" 63 11 19 true 1 := ⟨RX10, TX10, 48, tyX10, "LessonCardsModel", rfl, by decide, by decide, rfl, in_X10, tyX10_ok, nmX10, rfl, Or.inl rfl, Or.inl wd_954, rfl, (fun h => by cases h), (fun h => by cases h), (fun _ => Or.inr ⟨_, rfl⟩)⟩
theorem cf_X10_66 : mm_F "LessonCardsModel" 66 11 20 true 1 := ⟨RX10, TX10, 48, tyX10, "LessonCardsModel", rfl, by decide, by decide, rfl, in_X10, tyX10_ok, nmX10, rfl, Or.inl rfl, Or.inl wd_955, rfl, (fun h => by cases h), (fun h => by cases h), (fun _ => Or.inr ⟨_, rfl⟩)⟩
theorem cf_X10_69 : mm_F "LessonCardsModel" 69 11 21 true 1 := ⟨RX10, TX10, 48, tyX10, "LessonCardsModel", rfl, by decide, by decide, rfl, in_X10, tyX10_ok, nmX10, rfl, Or.inl rfl, Or.inl wd_956, rfl, (fun h => by cases h), (fun h => by cases h), (fun _ => Or.inr ⟨_, rfl⟩)⟩
theorem cf_X10_72 : mm_F "LessonCardsModel" 72 11 22 true 1 := ⟨RX10, TX10, 48, tyX10, "LessonCardsModel", rfl, by decide, by decide, rfl, in_X10, tyX10_ok, nmX10, rfl, Or.inl rfl, Or.inl wd_957, rfl, (fun h => by cases h), (fun h => by cases h), (fun _ => Or.inr ⟨_, rfl⟩)⟩
theorem cf_X10_75 : mm_F "LessonCardsModel" 75 11 23 true 1 := ⟨RX10, TX10, 48, tyX10, "LessonCardsModel", rfl, by decide, by decide, rfl, in_X10, tyX10_ok, nmX10, rfl, Or.inl rfl, Or.inl wd_958, rfl, (fun h => by cases h), (fun h => by cases h), (fun _ => Or.inr ⟨_, rfl⟩)⟩
theorem cf_X10_78 : mm_F "LessonCardsModel" 78 11 24 true 1 := ⟨RX10, TX10, 48, tyX10, "LessonCardsModel", rfl, by decide, by decide, rfl, in_X10, tyX10_ok, nmX10, rfl, Or.inl rfl, Or.inl wd_959, rfl, (fun h => by cases h), (fun h => by cases h), (fun _ => Or.inr ⟨_, rfl⟩)⟩
theorem cf_X10_81 : mm_F "LessonCardsModel" 81 11 25 true 1 := ⟨RX10, TX10, 48, tyX10, "LessonCardsModel", rfl, by decide, by decide, rfl, in_X10, tyX10_ok, nmX10, rfl, Or.inl rfl, Or.inl wd_960, rfl, (fun h => by cases h), (fun h => by cases h), (fun _ => Or.inr ⟨_, rfl⟩)⟩
theorem cf_X10_84 : mm_F "LessonCardsModel" 84 11 26 true 1 := ⟨RX10, TX10, 48, tyX10, "LessonCardsModel", rfl, by decide, by decide, rfl, in_X10, tyX10_ok, nmX10, rfl, Or.inl rfl, Or.inl wd_961, rfl, (fun h => by cases h), (fun h => by cases h), (fun _ => Or.inr ⟨_, rfl⟩)⟩
theorem cf_X10_87 : mm_F "LessonCardsModel" 87 11 27 true 1 := ⟨RX10, TX10, 48, tyX10, "LessonCardsModel", rfl, by decide, by decide, rfl, in_X10, tyX10_ok, nmX10, rfl, Or.inl rfl, Or.inl wd_962, rfl, (fun h => by cases h), (fun h => by cases h), (fun _ => Or.inr ⟨_, rfl⟩)⟩
theorem cf_X10_90 : mm_F "LessonCardsModel" 90 11 34 true 1 := ⟨RX10, TX10, 48, tyX10, "LessonCardsModel", rfl, by decide, by decide, rfl, in_X10, tyX10_ok, nmX10, rfl, Or.inl rfl, Or.inl wd_969, rfl, (fun h => by cases h), (fun h => by cases h), (fun _ => Or.inr ⟨_, rfl⟩)⟩
theorem cf_X10_93 : mm_F "LessonCardsModel" 93 11 35 true 1 := ⟨RX10, TX10, 48, tyX10, "LessonCardsModel", rfl, by decide, by decide, rfl, in_X10, tyX10_ok, nmX10, rfl, Or.inl rfl, Or.inl wd_970, rfl, (fun h => by cases h), (fun h => by cases h), (fun _ => Or.inr ⟨_, rfl⟩)⟩
theorem cf_X10_96 : mm_F "LessonCardsModel" 96 11 36 true 1 := ⟨RX10, TX10, 48, tyX10, "LessonCardsModel", rfl, by decide, by decide, rfl, in_X10, tyX10_ok, nmX10, rfl, Or.inl rfl, Or.inl wd_971, rfl, (fun h => by cases h), (fun h => by cases h), (fun _ => Or.inr ⟨_, rfl⟩)⟩
theorem cf_X10_99 : mm_F "LessonCardsModel" 99 11 38 true 1 := ⟨RX10, TX10, 48, tyX10, "LessonCardsModel", rfl, by decide, by decide, rfl, in_X10, tyX10_ok, nmX10, rfl, Or.inl rfl, Or.inl wd_973, rfl, (fun h => by cases h), (fun h => by cases h), (fun _ => Or.inr ⟨_, rfl⟩)⟩
theorem cf_X10_103 : mm_F "LessonCardsModel" 103 11 43 false 2 := ⟨RX10, TX10, 48, tyX10, "LessonCardsModel", rfl, by decide, by decide, rfl, in_X10, tyX10_ok, nmX10, rfl, Or.inl rfl, Or.inl wd_978, rfl, (fun h => by cases h), (fun _ => rfl), (fun h => by cases h)⟩
theorem cf_X10_107 : mm_F "LessonCardsModel" 107 11 44 true 1 := ⟨RX10, TX10, 48, tyX10, "LessonCardsModel", rfl, by decide, by decide, rfl, in_X10, tyX10_ok, nmX10, rfl, Or.inl rfl, Or.inl wd_979, rfl, (fun h => by cases h), (fun h => by cases h), (fun _ => Or.inr ⟨_, rfl⟩)⟩
theorem cf_X10_110 : mm_F "LessonCardsModel" 110 11 46 true 1 := ⟨RX10, TX10, 48, tyX10, "LessonCardsModel", rfl, by decide, by decide, rfl, in_X10, tyX10_ok, nmX10, rfl, Or.inl rfl, Or.inl wd_981, rfl, (fun h => by cases h), (fun h => by cases h), (fun _ => Or.inr ⟨_, rfl⟩)⟩
theorem cf_X10_113 : mm_F "LessonCardsModel" 113 11 47 true 1 := ⟨RX10, TX10, 48, tyX10, "LessonCardsModel", rfl, by decide, by decide, rfl, in_X10, tyX10_ok, nmX10, rfl, Or.inl rfl, Or.inl wd_982, rfl, (fun h => by cases h), (fun h => by cases h), (fun _ => Or.inr ⟨_, rfl⟩)⟩
theorem cf_X10_116 : mm_F "LessonCardsModel" 116 11 3 false 0 := ⟨RX10, TX10, 48, tyX10, "LessonCardsModel", rfl, by decide, by decide, rfl, in_X10, tyX10_ok, nmX10, rfl, Or.inl rfl, Or.inl wd_938, rfl, (fun _ => rfl), (fun h => by cases h), (fun h => by cases h)⟩
theorem cf_X10_131 : mm_F "LessonCardsModel" 131 11 4 false 0 := ⟨RX10, TX10, 48, tyX10, "LessonCardsModel", rfl, by decide, by decide, rfl, in_X10, tyX10_ok, nmX10, rfl, Or.inl rfl, Or.inl wd_939, rfl, (fun _ => rfl), (fun h => by cases h), (fun h => by cases h)⟩
theorem cf_X10_135 : mm_F "LessonCardsModel" 135 11 29 false 0 := ⟨RX10, TX10, 48, tyX10, "LessonCardsModel", rfl, by decide, by decide, rfl, in_X10, tyX10_ok, nmX10, rfl, Or.inl rfl, Or.inl wd_964, rfl, (fun _ => rfl), (fun h => by cases h), (fun h => by cases h)⟩
theorem cf_X10_138 : mm_F "LessonCardsModel" 138 11 30 false 0 := ⟨RX10, TX10, 48, tyX10, "LessonCardsModel", rfl, by decide, by decide, rfl, in_X10, tyX10_ok, nmX10, rfl, Or.inl rfl, Or.inl wd_965, rfl, (fun _ => rfl), (fun h => by cases h), (fun h => by cases h)⟩
theorem cf_X10_141 : mm_F "LessonCardsModel" 141 11 31 false 0 := ⟨RX10, TX10, 48, tyX10, "LessonCardsModel", rfl, by decide, by decide, rfl, in_X10, tyX10_ok, nmX10, rfl, Or.inl rfl, Or.inl wd_966, rfl, (fun _ => rfl), (fun h => by cases h), (fun h => by cases h)⟩
theorem cf_X10_144 : mm_F "LessonCardsModel" 144 11 32 false 0 := ⟨RX10, TX10, 48, tyX10, "LessonCardsModel", rfl, by decide, by decide, rfl, in_X10, tyX10_ok, nmX10, rfl, Or.inl rfl, Or.inl wd_967, rfl, (fun _ => rfl), (fun h => by cases h), (fun h => by cases h)⟩
theorem cf_X10_147 : mm_F "LessonCardsModel" 147 11 33 false 0 := ⟨RX10, TX10, 48, tyX10, "LessonCardsModel", rfl, by decide, by decide, rfl, in_X10, tyX10_ok, nmX10, rfl, Or.inl rfl, Or.inl wd_968, rfl, (fun _ => rfl), (fun h => by cases h), (fun h => by cases h)⟩
theorem cf_X10_193 : mm_F "LessonCardsModel" 193 11 45 false 0 := ⟨RX10, TX10, 48, tyX10, "LessonCardsModel", rfl, by decide, by decide, rfl, in_X10, tyX10_ok, nmX10, rfl, Or.inl rfl, Or.inl wd_980, rfl, (fun _ => rfl), (fun h => by cases h), (fun h => by cases h)⟩
theorem cf_X10_207 : mm_F "LessonCardsModel" 207 11 28 false 0 := ⟨RX10, TX10, 48, tyX10, "LessonCardsModel", rfl, by decide, by decide, rfl, in_X10, tyX10_ok, nmX10, rfl, Or.inl rfl, Or.inl wd_963, rfl, (fun _ => rfl), (fun h => by cases h), (fun h => by cases h)⟩
theorem cf_X10_233 : mm_F "LessonCardsModel" 233 11 37 false 2 := ⟨RX10, TX10, 48, tyX10, "LessonCardsModel", rfl, by decide, by decide, rfl, in_X10, tyX10_ok, nmX10, rfl, Or.inl rfl, Or.inl wd_972, rfl, (fun h => by cases h), (fun _ => rfl), (fun h => by cases h)⟩
theorem cf_X10_239 : mm_F "LessonCardsModel" 239 11 39 false 0 := ⟨RX10, TX10, 48, tyX10, "LessonCardsModel", rfl, by decide, by decide, rfl, in_X10, tyX10_ok, nmX10, rfl, Or.inl rfl, Or.inl wd_974, rfl, (fun _ => rfl), (fun h => by cases h), (fun h => by cases h)⟩
theorem cf_X10_245 : mm_F "LessonCardsModel" 245 11 41 false 0 := ⟨RX10, TX10, 48, tyX10, "LessonCardsModel", rfl, by decide, by decide, rfl, in_X10, tyX10_ok, nmX10, rfl, Or.inl rfl, Or.inl wd_976, rfl, (fun _ => rfl), (fun h => by cases h), (fun h => by cases h)⟩
theorem cf_X10_242 : mm_F "LessonCardsModel" 242 11 40 false 0 := ⟨RX10, TX10, 48, tyX10, "LessonCardsModel", rfl, by decide, by decide, rfl, in_X10, tyX10_ok, nmX10, rfl, Or.inl rfl, Or.inl wd_975, rfl, (fun _ => rfl), (fun h => by cases h), (fun h => by cases h)⟩
theorem cf_X10_252 : mm_F "LessonCardsModel" 252 11 42 false 0 := ⟨RX10, TX10, 48, tyX10, "LessonCardsModel", rfl, by decide, by decide, rfl, in_X10, tyX10_ok, nmX10, rfl, Or.inl rfl, Or.inl wd_977, rfl, (fun _ => rfl), (fun h => by cases h), (fun h => by cases h)⟩
theorem co_1_0 : mm_own "LessonCards$Card" 1 0 := fun q h => by have h2 := Option.some.inj h; subst h2; rfl
theorem co_2_0 : mm_own "LessonCards$Curve" 2 0 := fun q h => by have h2 := Option.some.inj h; subst h2; rfl
theorem co_2_1 : mm_own "LessonCards$Curve" 2 1 := fun q h => by have h2 := Option.some.inj h; subst h2; rfl
theorem co_3_0 : mm_own "LessonCards$Deck" 3 0 := fun q h => by have h2 := Option.some.inj h; subst h2; rfl
theorem co_3_1 : mm_own "LessonCards$Deck" 3 1 := fun q h => by have h2 := Option.some.inj h; subst h2; rfl
theorem co_3_2 : mm_own "LessonCards$Deck" 3 2 := fun q h => by have h2 := Option.some.inj h; subst h2; rfl
theorem co_4_0 : mm_own "LessonCards$Entry" 4 0 := fun q h => by have h2 := Option.some.inj h; subst h2; rfl
theorem co_4_1 : mm_own "LessonCards$Entry" 4 1 := fun q h => by have h2 := Option.some.inj h; subst h2; rfl
theorem co_4_2 : mm_own "LessonCards$Entry" 4 2 := fun q h => by have h2 := Option.some.inj h; subst h2; rfl
theorem co_4_3 : mm_own "LessonCards$Entry" 4 3 := fun q h => by have h2 := Option.some.inj h; subst h2; rfl
theorem co_4_4 : mm_own "LessonCards$Entry" 4 4 := fun q h => by have h2 := Option.some.inj h; subst h2; rfl
theorem co_4_5 : mm_own "LessonCards$Entry" 4 5 := fun q h => by have h2 := Option.some.inj h; subst h2; rfl
theorem co_4_6 : mm_own "LessonCards$Entry" 4 6 := fun q h => by have h2 := Option.some.inj h; subst h2; rfl
theorem co_5_0 : mm_own "LessonCards$Evening" 5 0 := fun q h => by have h2 := Option.some.inj h; subst h2; rfl
theorem co_5_2 : mm_own "LessonCards$Evening" 5 2 := fun q h => by have h2 := Option.some.inj h; subst h2; rfl
theorem co_5_3 : mm_own "LessonCards$Evening" 5 3 := fun q h => by have h2 := Option.some.inj h; subst h2; rfl
theorem co_6_0 : mm_own "LessonCards$Hand" 6 0 := fun q h => by have h2 := Option.some.inj h; subst h2; rfl
theorem co_7_0 : mm_own "LessonCards$Learner" 7 0 := fun q h => by have h2 := Option.some.inj h; subst h2; rfl
theorem co_7_1 : mm_own "LessonCards$Learner" 7 1 := fun q h => by have h2 := Option.some.inj h; subst h2; rfl
theorem co_8_0 : mm_own "LessonCards$LevelTest" 8 0 := fun q h => by have h2 := Option.some.inj h; subst h2; rfl
theorem co_10_0 : mm_own "LessonCards" 10 0 := fun q h => by have h2 := Option.some.inj h; subst h2; rfl
theorem co_10_1 : mm_own "LessonCards" 10 1 := fun q h => by have h2 := Option.some.inj h; subst h2; rfl
theorem co_10_2 : mm_own "LessonCards" 10 2 := fun q h => by have h2 := Option.some.inj h; subst h2; rfl
theorem co_10_3 : mm_own "LessonCards" 10 3 := fun q h => by have h2 := Option.some.inj h; subst h2; rfl
theorem co_10_4 : mm_own "LessonCards" 10 4 := fun q h => by have h2 := Option.some.inj h; subst h2; rfl
theorem co_10_5 : mm_own "LessonCards" 10 5 := fun q h => by have h2 := Option.some.inj h; subst h2; rfl
theorem co_10_6 : mm_own "LessonCards" 10 6 := fun q h => by have h2 := Option.some.inj h; subst h2; rfl
theorem co_10_7 : mm_own "LessonCards" 10 7 := fun q h => by have h2 := Option.some.inj h; subst h2; rfl
theorem co_11_0 : mm_own "LessonCardsModel" 11 0 := fun q h => by have h2 := Option.some.inj h; subst h2; rfl
theorem co_11_1 : mm_own "LessonCardsModel" 11 1 := fun q h => by have h2 := Option.some.inj h; subst h2; rfl
theorem co_11_2 : mm_own "LessonCardsModel" 11 2 := fun q h => by have h2 := Option.some.inj h; subst h2; rfl
theorem co_11_5 : mm_own "LessonCardsModel" 11 5 := fun q h => by have h2 := Option.some.inj h; subst h2; rfl
theorem co_11_8 : mm_own "LessonCardsModel" 11 8 := fun q h => by have h2 := Option.some.inj h; subst h2; rfl
theorem co_11_9 : mm_own "LessonCardsModel" 11 9 := fun q h => by have h2 := Option.some.inj h; subst h2; rfl
theorem co_11_10 : mm_own "LessonCardsModel" 11 10 := fun q h => by have h2 := Option.some.inj h; subst h2; rfl
theorem co_11_11 : mm_own "LessonCardsModel" 11 11 := fun q h => by have h2 := Option.some.inj h; subst h2; rfl
theorem co_11_12 : mm_own "LessonCardsModel" 11 12 := fun q h => by have h2 := Option.some.inj h; subst h2; rfl
theorem co_11_13 : mm_own "LessonCardsModel" 11 13 := fun q h => by have h2 := Option.some.inj h; subst h2; rfl
theorem co_11_14 : mm_own "LessonCardsModel" 11 14 := fun q h => by have h2 := Option.some.inj h; subst h2; rfl
theorem co_11_15 : mm_own "LessonCardsModel" 11 15 := fun q h => by have h2 := Option.some.inj h; subst h2; rfl
theorem co_11_16 : mm_own "LessonCardsModel" 11 16 := fun q h => by have h2 := Option.some.inj h; subst h2; rfl
theorem co_11_17 : mm_own "LessonCardsModel" 11 17 := fun q h => by have h2 := Option.some.inj h; subst h2; rfl
theorem co_11_18 : mm_own "LessonCardsModel" 11 18 := fun q h => by have h2 := Option.some.inj h; subst h2; rfl
theorem co_11_19 : mm_own "LessonCardsModel" 11 19 := fun q h => by have h2 := Option.some.inj h; subst h2; rfl
theorem co_11_20 : mm_own "LessonCardsModel" 11 20 := fun q h => by have h2 := Option.some.inj h; subst h2; rfl
theorem co_11_21 : mm_own "LessonCardsModel" 11 21 := fun q h => by have h2 := Option.some.inj h; subst h2; rfl
theorem co_11_22 : mm_own "LessonCardsModel" 11 22 := fun q h => by have h2 := Option.some.inj h; subst h2; rfl
theorem co_11_23 : mm_own "LessonCardsModel" 11 23 := fun q h => by have h2 := Option.some.inj h; subst h2; rfl
theorem co_11_24 : mm_own "LessonCardsModel" 11 24 := fun q h => by have h2 := Option.some.inj h; subst h2; rfl
theorem co_11_25 : mm_own "LessonCardsModel" 11 25 := fun q h => by have h2 := Option.some.inj h; subst h2; rfl
theorem co_11_26 : mm_own "LessonCardsModel" 11 26 := fun q h => by have h2 := Option.some.inj h; subst h2; rfl
theorem co_11_27 : mm_own "LessonCardsModel" 11 27 := fun q h => by have h2 := Option.some.inj h; subst h2; rfl
theorem co_11_34 : mm_own "LessonCardsModel" 11 34 := fun q h => by have h2 := Option.some.inj h; subst h2; rfl
theorem co_11_35 : mm_own "LessonCardsModel" 11 35 := fun q h => by have h2 := Option.some.inj h; subst h2; rfl
theorem co_11_36 : mm_own "LessonCardsModel" 11 36 := fun q h => by have h2 := Option.some.inj h; subst h2; rfl
theorem co_11_38 : mm_own "LessonCardsModel" 11 38 := fun q h => by have h2 := Option.some.inj h; subst h2; rfl
theorem co_11_44 : mm_own "LessonCardsModel" 11 44 := fun q h => by have h2 := Option.some.inj h; subst h2; rfl
theorem co_11_46 : mm_own "LessonCardsModel" 11 46 := fun q h => by have h2 := Option.some.inj h; subst h2; rfl
theorem co_11_47 : mm_own "LessonCardsModel" 11 47 := fun q h => by have h2 := Option.some.inj h; subst h2; rfl
theorem cm_J7_300 : mm_cS "java/util/Arrays" 300 yJ7_copyOf_6403c cJ7_copyOf_6403c 4 (some (.array (.object "java/lang/Object"))) 3 := ⟨⟨wd_348, wd_60, ⟨by decide, by decide⟩, by decide +kernel⟩, (Or.inl wd_346), wd_347⟩
theorem cm_Jxc12de_1 : mm_cI "java/util/AbstractList" 1 yJxa1e45_init_da8c8 cJxa1e45_init_da8c8 1 0 := ⟨⟨wd_105, wd_49, ⟨by decide, by decide⟩, by decide +kernel⟩, (Or.inl wd_103), wd_104, rfl⟩
theorem cm_Jx4a65c_1 : mm_cI "java/util/ArrayList" 1 yJxc12de_init_da8c8 cJxc12de_init_da8c8 1 0 := ⟨⟨wd_102, wd_50, ⟨by decide, by decide⟩, by decide +kernel⟩, (Or.inl wd_100), wd_101, rfl⟩
theorem cm_X2_11 : mm_cI "LessonCards$Deck" 11 yJx4a65c_init_da8c8 cJx4a65c_init_da8c8 1 0 := ⟨⟨wd_99, wd_51, ⟨by decide, by decide⟩, by decide +kernel⟩, (Or.inl wd_97), wd_98, rfl⟩
theorem cm_X2_26 : mm_cV "LessonCards$Deck" 26 0 yJx4a65c_size_8abf5 cJx4a65c_size_8abf5 1 (some .int) 0 := ⟨⟨wd_254, wd_51, ⟨by decide, by decide⟩, by decide +kernel⟩, by decide, rfl, (Or.inl wd_251), wd_252, wd_253⟩
theorem cm_J8_201 : mm_cS "jdk/internal/util/ArraysSupport" 201 yJ8_hugeLength_7cf53 cJ8_hugeLength_7cf53 3 (some .int) 2 := ⟨⟨wd_326, wd_58, ⟨by decide, by decide⟩, by decide +kernel⟩, (Or.inl wd_324), wd_325⟩
theorem cm_Jx4a65c_73 : mm_cS "java/util/ArrayList" 73 yJ8_newLength_cabcc cJ8_newLength_cabcc 4 (some .int) 3 := ⟨⟨wd_319, wd_58, ⟨by decide, by decide⟩, by decide +kernel⟩, (Or.inl wd_317), wd_318⟩
theorem cm_Jx4a65c_66 : mm_cS "java/util/ArrayList" 66 yJ7_copyOf_1904c cJ7_copyOf_1904c 2 (some (.array (.object "java/lang/Object"))) 2 := ⟨⟨wd_329, wd_60, ⟨by decide, by decide⟩, by decide +kernel⟩, (Or.inl wd_327), wd_328⟩
theorem cm_Jx4a65c_69 : mm_cV "java/util/ArrayList" 69 0 yJx4a65c_grow_92f84 cJx4a65c_grow_92f84 4 (some (.array (.object "java/lang/Object"))) 1 := ⟨⟨wd_316, wd_51, ⟨by decide, by decide⟩, by decide +kernel⟩, by decide, rfl, (Or.inl wd_313), wd_315, wd_2⟩
theorem cm_Jx4a65c_129 : mm_cV "java/util/ArrayList" 129 0 yJx4a65c_grow_d5877 cJx4a65c_grow_d5877 1 (some (.array (.object "java/lang/Object"))) 0 := ⟨⟨wd_312, wd_51, ⟨by decide, by decide⟩, by decide +kernel⟩, by decide, rfl, (Or.inl wd_309), wd_311, wd_1⟩
theorem cm_Jx4a65c_131 : mm_cV "java/util/ArrayList" 131 0 yJx4a65c_add_72be8 cJx4a65c_add_72be8 4 none 3 := ⟨⟨wd_308, wd_51, ⟨by decide, by decide⟩, by decide +kernel⟩, by decide, rfl, (Or.inl wd_305), wd_307, wd_0⟩
theorem cm_X2_32 : mm_cI "LessonCards$Deck" 32 yX0_init cX0_init 1 0 := ⟨⟨wd_368, wd_62, ⟨by decide, by decide⟩, by decide +kernel⟩, (Or.inr ⟨_, wn_366⟩), wd_367, rfl⟩
theorem cm_X2_33 : mm_cV "LessonCards$Deck" 33 0 yJx4a65c_add_9ea2d cJx4a65c_add_9ea2d 2 (some .boolean) 1 := ⟨⟨wd_304, wd_51, ⟨by decide, by decide⟩, by decide +kernel⟩, by decide, rfl, (Or.inl wd_381), wd_302, wd_303⟩
theorem cm_J15_105 : mm_cS "java/util/Objects" 105 yJ3_checkIndex_8e157 cJ3_checkIndex_8e157 3 (some .int) 3 := ⟨⟨wd_399, wd_64, ⟨by decide, by decide⟩, by decide +kernel⟩, (Or.inl wd_397), wd_398⟩
theorem cm_Jx4a65c_118 : mm_cS "java/util/ArrayList" 118 yJ15_checkIndex_7cf53 cJ15_checkIndex_7cf53 2 (some .int) 2 := ⟨⟨wd_396, wd_63, ⟨by decide, by decide⟩, by decide +kernel⟩, (Or.inl wd_394), wd_395⟩
theorem cm_Jx4a65c_123 : mm_cV "java/util/ArrayList" 123 0 yJx4a65c_elementData_915e3 cJx4a65c_elementData_915e3 2 (some (.object "java/lang/Object")) 1 := ⟨⟨wd_403, wd_51, ⟨by decide, by decide⟩, by decide +kernel⟩, by decide, rfl, (Or.inl wd_400), wd_401, wd_402⟩
theorem cm_X2_37 : mm_cV "LessonCards$Deck" 37 0 yJx4a65c_get_915e3 cJx4a65c_get_915e3 2 (some (.object "java/lang/Object")) 1 := ⟨⟨wd_393, wd_51, ⟨by decide, by decide⟩, by decide +kernel⟩, by decide, rfl, (Or.inl wd_390), wd_391, wd_392⟩
theorem cm_X2_41 : mm_cV "LessonCards$Deck" 41 3 yX2_reach cX2_reach 3 (some .int) 2 := ⟨⟨wd_415, wd_48, ⟨by decide, by decide⟩, by decide +kernel⟩, by decide, rfl, (Or.inl wd_412), wd_414, wd_3⟩
theorem cm_X2_45 : mm_cV "LessonCards$Deck" 45 3 yX2_cardAt cX2_cardAt 2 (some (.object "LessonCards$Card")) 1 := ⟨⟨wd_389, wd_48, ⟨by decide, by decide⟩, by decide +kernel⟩, by decide, rfl, (Or.inl wd_416), wd_387, wd_388⟩
theorem cm_X6_31 : mm_cV "LessonCards$Learner" 31 0 yJx4a65c_size_8abf5 cJx4a65c_size_8abf5 1 (some .int) 0 := ⟨⟨wd_254, wd_51, ⟨by decide, by decide⟩, by decide +kernel⟩, by decide, rfl, (Or.inl wd_452), wd_252, wd_253⟩
theorem cm_X6_35 : mm_cV "LessonCards$Learner" 35 0 yJx4a65c_get_915e3 cJx4a65c_get_915e3 2 (some (.object "java/lang/Object")) 1 := ⟨⟨wd_393, wd_51, ⟨by decide, by decide⟩, by decide +kernel⟩, by decide, rfl, (Or.inl wd_453), wd_391, wd_392⟩
theorem cm_X6_39 : mm_cV "LessonCards$Learner" 39 7 yX6_handAt cX6_handAt 2 (some (.object "LessonCards$Hand")) 1 := ⟨⟨wd_513, wd_52, ⟨by decide, by decide⟩, by decide +kernel⟩, by decide, rfl, (Or.inl wd_510), wd_511, wd_512⟩
theorem cm_X6_43 : mm_cV "LessonCards$Learner" 43 6 yX5_memoryAt cX5_memoryAt 2 (some (.object "LessonCards$Memory")) 1 := ⟨⟨wd_517, wd_56, ⟨by decide, by decide⟩, by decide +kernel⟩, by decide, rfl, (Or.inl wd_514), wd_515, wd_516⟩
theorem cm_X4_25 : mm_cV "LessonCards$Evening" 25 7 yX6_memoryAt cX6_memoryAt 3 (some (.object "LessonCards$Memory")) 1 := ⟨⟨wd_509, wd_52, ⟨by decide, by decide⟩, by decide +kernel⟩, by decide, rfl, (Or.inl wd_776), wd_507, wd_508⟩
theorem cm_X4_31 : mm_cV "LessonCards$Evening" 31 9 yX8_isToCome cX8_isToCome 1 (some .boolean) 0 := ⟨⟨wd_481, wd_57, ⟨by decide, by decide⟩, by decide +kernel⟩, by decide, rfl, (Or.inl wd_777), wd_479, wd_480⟩
theorem cm_X4_40 : mm_cV "LessonCards$Evening" 40 9 yX8_firstDue cX8_firstDue 4 (some .int) 2 := ⟨⟨wd_719, wd_57, ⟨by decide, by decide⟩, by decide +kernel⟩, by decide, rfl, (Or.inl wd_778), wd_717, wd_718⟩
theorem cm_X4_44 : mm_cV "LessonCards$Evening" 44 5 yX4_addSide cX4_addSide 5 none 2 := ⟨⟨wd_782, wd_53, ⟨by decide, by decide⟩, by decide +kernel⟩, by decide, rfl, (Or.inl wd_779), wd_781, wd_14⟩
theorem cm_X4_56 : mm_cV "LessonCards$Evening" 56 5 yX4_putOn cX4_putOn 3 none 2 := ⟨⟨wd_794, wd_53, ⟨by decide, by decide⟩, by decide +kernel⟩, by decide, rfl, (Or.inl wd_791), wd_793, wd_16⟩
theorem cm_X4_52 : mm_cV "LessonCards$Evening" 52 5 yX4_fits cX4_fits 6 (some .boolean) 2 := ⟨⟨wd_790, wd_53, ⟨by decide, by decide⟩, by decide +kernel⟩, by decide, rfl, (Or.inl wd_787), wd_789, wd_15⟩
theorem cm_X5_17 : mm_cI "LessonCards$Hand" 17 yX8_init cX8_init 1 0 := ⟨⟨wd_270, wd_57, ⟨by decide, by decide⟩, by decide +kernel⟩, (Or.inr ⟨_, wn_268⟩), wd_269, rfl⟩
theorem cm_X5_18 : mm_cV "LessonCards$Hand" 18 6 yX5_memoryAt cX5_memoryAt 2 (some (.object "LessonCards$Memory")) 1 := ⟨⟨wd_517, wd_56, ⟨by decide, by decide⟩, by decide +kernel⟩, by decide, rfl, (Or.inl wd_759), wd_515, wd_516⟩
theorem cm_X5_22 : mm_cV "LessonCards$Hand" 22 9 yX8_become cX8_become 2 none 1 := ⟨⟨wd_583, wd_57, ⟨by decide, by decide⟩, by decide +kernel⟩, by decide, rfl, (Or.inl wd_760), wd_581, wd_582⟩
theorem cm_X5_30 : mm_cV "LessonCards$Hand" 30 9 yX8_forget cX8_forget 1 none 0 := ⟨⟨wd_899, wd_57, ⟨by decide, by decide⟩, by decide +kernel⟩, by decide, rfl, (Or.inl wd_896), wd_897, wd_898⟩
theorem cm_X5_33 : mm_cV "LessonCards$Hand" 33 9 yX8_forgetToday cX8_forgetToday 1 none 0 := ⟨⟨wd_461, wd_57, ⟨by decide, by decide⟩, by decide +kernel⟩, by decide, rfl, (Or.inl wd_458), wd_459, wd_460⟩
theorem cm_X5_36 : mm_cV "LessonCards$Hand" 36 9 yX8_isLike cX8_isLike 2 (some .boolean) 1 := ⟨⟨wd_928, wd_57, ⟨by decide, by decide⟩, by decide +kernel⟩, by decide, rfl, (Or.inl wd_925), wd_926, wd_927⟩
theorem cm_X8_39 : mm_cV "LessonCards$Memory" 39 2 yX1_chanceAt cX1_chanceAt 2 (some .int) 1 := ⟨⟨wd_489, wd_47, ⟨by decide, by decide⟩, by decide +kernel⟩, by decide, rfl, (Or.inl wd_486), wd_487, wd_488⟩
theorem cm_X8_45 : mm_cV "LessonCards$Memory" 45 9 yX8_isToCome cX8_isToCome 1 (some .boolean) 0 := ⟨⟨wd_481, wd_57, ⟨by decide, by decide⟩, by decide +kernel⟩, by decide, rfl, (Or.inl wd_478), wd_479, wd_480⟩
theorem cm_X8_49 : mm_cV "LessonCards$Memory" 49 9 yX8_chanceOn cX8_chanceOn 3 (some .int) 2 := ⟨⟨wd_485, wd_57, ⟨by decide, by decide⟩, by decide +kernel⟩, by decide, rfl, (Or.inl wd_482), wd_483, wd_484⟩
theorem cm_X5_40 : mm_cV "LessonCards$Hand" 40 9 yX8_isKnown cX8_isKnown 3 (some .boolean) 2 := ⟨⟨wd_548, wd_57, ⟨by decide, by decide⟩, by decide +kernel⟩, by decide, rfl, (Or.inl wd_545), wd_546, wd_547⟩
theorem cm_X8_60 : mm_cV "LessonCards$Memory" 60 9 yX8_isLeech cX8_isLeech 1 (some .boolean) 0 := ⟨⟨wd_659, wd_57, ⟨by decide, by decide⟩, by decide +kernel⟩, by decide, rfl, (Or.inl wd_656), wd_657, wd_658⟩
theorem cm_X8_57 : mm_cV "LessonCards$Memory" 57 9 yX8_isFresh cX8_isFresh 1 (some .boolean) 0 := ⟨⟨wd_531, wd_57, ⟨by decide, by decide⟩, by decide +kernel⟩, by decide, rfl, (Or.inl wd_627), wd_529, wd_530⟩
theorem cm_X8_53 : mm_cV "LessonCards$Memory" 53 9 yX8_isDue cX8_isDue 3 (some .boolean) 2 := ⟨⟨wd_477, wd_57, ⟨by decide, by decide⟩, by decide +kernel⟩, by decide, rfl, (Or.inl wd_709), wd_475, wd_476⟩
theorem cm_X5_44 : mm_cV "LessonCards$Hand" 44 9 yX8_isOfKind cX8_isOfKind 4 (some .boolean) 3 := ⟨⟨wd_739, wd_57, ⟨by decide, by decide⟩, by decide +kernel⟩, by decide, rfl, (Or.inl wd_736), wd_737, wd_738⟩
theorem cm_X5_48 : mm_cV "LessonCards$Hand" 48 9 yX8_isDue cX8_isDue 3 (some .boolean) 2 := ⟨⟨wd_477, wd_57, ⟨by decide, by decide⟩, by decide +kernel⟩, by decide, rfl, (Or.inl wd_474), wd_475, wd_476⟩
theorem cm_X5_51 : mm_cV "LessonCards$Hand" 51 9 yX8_chanceOn cX8_chanceOn 3 (some .int) 2 := ⟨⟨wd_485, wd_57, ⟨by decide, by decide⟩, by decide +kernel⟩, by decide, rfl, (Or.inl wd_490), wd_483, wd_484⟩
theorem cm_X5_55 : mm_cV "LessonCards$Hand" 55 9 yX8_isFresh cX8_isFresh 1 (some .boolean) 0 := ⟨⟨wd_531, wd_57, ⟨by decide, by decide⟩, by decide +kernel⟩, by decide, rfl, (Or.inl wd_528), wd_529, wd_530⟩
theorem cm_X6_11 : mm_cI "LessonCards$Learner" 11 yJx4a65c_init_da8c8 cJx4a65c_init_da8c8 1 0 := ⟨⟨wd_99, wd_51, ⟨by decide, by decide⟩, by decide +kernel⟩, (Or.inl wd_140), wd_98, rfl⟩
theorem cm_X6_24 : mm_cI "LessonCards$Learner" 24 yX5_init cX5_init 3 1 := ⟨⟨wd_263, wd_56, ⟨by decide, by decide⟩, by decide +kernel⟩, (Or.inl wd_261), wd_262, rfl⟩
theorem cm_X6_27 : mm_cV "LessonCards$Learner" 27 0 yJx4a65c_add_9ea2d cJx4a65c_add_9ea2d 2 (some .boolean) 1 := ⟨⟨wd_304, wd_51, ⟨by decide, by decide⟩, by decide +kernel⟩, by decide, rfl, (Or.inl wd_301), wd_302, wd_303⟩
theorem cm_X6_54 : mm_cV "LessonCards$Learner" 54 6 yX5_forgetToday cX5_forgetToday 2 none 0 := ⟨⟨wd_457, wd_56, ⟨by decide, by decide⟩, by decide +kernel⟩, by decide, rfl, (Or.inl wd_454), wd_455, wd_456⟩
theorem cm_X6_57 : mm_cV "LessonCards$Learner" 57 6 yX5_forgetAll cX5_forgetAll 2 none 0 := ⟨⟨wd_895, wd_56, ⟨by decide, by decide⟩, by decide +kernel⟩, by decide, rfl, (Or.inl wd_892), wd_893, wd_894⟩
theorem cm_X6_60 : mm_cV "LessonCards$Learner" 60 6 yX5_isLike cX5_isLike 4 (some .boolean) 1 := ⟨⟨wd_924, wd_56, ⟨by decide, by decide⟩, by decide +kernel⟩, by decide, rfl, (Or.inl wd_921), wd_922, wd_923⟩
theorem cm_X6_64 : mm_cV "LessonCards$Learner" 64 6 yX5_isKnown cX5_isKnown 4 (some .boolean) 2 := ⟨⟨wd_544, wd_56, ⟨by decide, by decide⟩, by decide +kernel⟩, by decide, rfl, (Or.inl wd_541), wd_542, wd_543⟩
theorem cm_X6_68 : mm_cV "LessonCards$Learner" 68 6 yX5_countSides cX5_countSides 6 (some .int) 3 := ⟨⟨wd_735, wd_56, ⟨by decide, by decide⟩, by decide +kernel⟩, by decide, rfl, (Or.inl wd_732), wd_733, wd_734⟩
theorem cm_X6_72 : mm_cV "LessonCards$Learner" 72 7 yX6_first cX6_first 1 (some .int) 0 := ⟨⟨wd_556, wd_52, ⟨by decide, by decide⟩, by decide +kernel⟩, by decide, rfl, (Or.inl wd_567), wd_554, wd_555⟩
theorem cm_X6_75 : mm_cV "LessonCards$Learner" 75 7 yX6_drop cX6_drop 4 none 1 := ⟨⟨wd_571, wd_52, ⟨by decide, by decide⟩, by decide +kernel⟩, by decide, rfl, (Or.inl wd_568), wd_569, wd_570⟩
theorem cm_X6_101 : mm_cV "LessonCards$Learner" 101 7 yX6_memoryAt cX6_memoryAt 3 (some (.object "LessonCards$Memory")) 1 := ⟨⟨wd_509, wd_52, ⟨by decide, by decide⟩, by decide +kernel⟩, by decide, rfl, (Or.inl wd_506), wd_507, wd_508⟩
theorem cm_X6_102 : mm_cV "LessonCards$Learner" 102 9 yX8_chanceOn cX8_chanceOn 3 (some .int) 2 := ⟨⟨wd_485, wd_57, ⟨by decide, by decide⟩, by decide +kernel⟩, by decide, rfl, (Or.inl wd_518), wd_483, wd_484⟩
theorem cm_X6_98 : mm_cV "LessonCards$Learner" 98 7 yX6_chanceAt cX6_chanceAt 4 (some .int) 2 := ⟨⟨wd_505, wd_52, ⟨by decide, by decide⟩, by decide +kernel⟩, by decide, rfl, (Or.inl wd_502), wd_504, wd_6⟩
theorem cm_X6_78 : mm_cV "LessonCards$Learner" 78 6 yX5_mostUrgent cX5_mostUrgent 8 (some .int) 2 := ⟨⟨wd_473, wd_56, ⟨by decide, by decide⟩, by decide +kernel⟩, by decide, rfl, (Or.inl wd_470), wd_471, wd_472⟩
theorem cm_X6_82 : mm_cS "LessonCards$Learner" 82 yX9_placeOf cX9_placeOf 2 (some .int) 2 := ⟨⟨wd_493, wd_46, ⟨by decide, by decide⟩, by decide +kernel⟩, (Or.inr ⟨_, wn_491⟩), wd_492⟩
theorem cm_X6_86 : mm_cV "LessonCards$Learner" 86 7 yX6_append cX6_append 2 none 1 := ⟨⟨wd_497, wd_52, ⟨by decide, by decide⟩, by decide +kernel⟩, by decide, rfl, (Or.inl wd_494), wd_495, wd_496⟩
theorem cm_X6_89 : mm_cV "LessonCards$Learner" 89 7 yX6_sinkLast cX6_sinkLast 4 none 1 := ⟨⟨wd_501, wd_52, ⟨by decide, by decide⟩, by decide +kernel⟩, by decide, rfl, (Or.inl wd_498), wd_500, wd_5⟩
theorem cm_X6_107 : mm_cV "LessonCards$Learner" 107 6 yX5_firstFresh cX5_firstFresh 2 (some .int) 0 := ⟨⟨wd_527, wd_56, ⟨by decide, by decide⟩, by decide +kernel⟩, by decide, rfl, (Or.inl wd_524), wd_525, wd_526⟩
theorem cm_X6_110 : mm_cV "LessonCards$Learner" 110 7 yX6_hasCard cX6_hasCard 3 (some .boolean) 1 := ⟨⟨wd_535, wd_52, ⟨by decide, by decide⟩, by decide +kernel⟩, by decide, rfl, (Or.inl wd_532), wd_534, wd_7⟩
theorem cm_X6_114 : mm_cV "LessonCards$Learner" 114 3 yX2_cardAt cX2_cardAt 2 (some (.object "LessonCards$Card")) 1 := ⟨⟨wd_389, wd_48, ⟨by decide, by decide⟩, by decide +kernel⟩, by decide, rfl, (Or.inl wd_536), wd_387, wd_388⟩
theorem cm_X6_120 : mm_cV "LessonCards$Learner" 120 7 yX6_isReady cX6_isReady 5 (some .boolean) 2 := ⟨⟨wd_540, wd_52, ⟨by decide, by decide⟩, by decide +kernel⟩, by decide, rfl, (Or.inl wd_537), wd_539, wd_8⟩
theorem cm_X7_44 : mm_cV "LessonCards$LevelTest" 44 8 yX7_factorOf cX7_factorOf 4 (some .int) 3 := ⟨⟨wd_831, wd_54, ⟨by decide, by decide⟩, by decide +kernel⟩, by decide, rfl, (Or.inl wd_828), wd_830, wd_18⟩
theorem cm_X7_40 : mm_cV "LessonCards$LevelTest" 40 8 yX7_greatestBehind cX7_greatestBehind 6 (some .long) 2 := ⟨⟨wd_827, wd_54, ⟨by decide, by decide⟩, by decide +kernel⟩, by decide, rfl, (Or.inl wd_824), wd_826, wd_17⟩
theorem cm_X7_55 : mm_cV "LessonCards$LevelTest" 55 8 yX7_isClear cX7_isClear 6 (some .boolean) 0 := ⟨⟨wd_847, wd_54, ⟨by decide, by decide⟩, by decide +kernel⟩, by decide, rfl, (Or.inl wd_844), wd_846, wd_19⟩
theorem cm_X7_52 : mm_cS "LessonCards$LevelTest" 52 yX7_commonDivisor cX7_commonDivisor 11 (some .long) 2 := ⟨⟨wd_843, wd_54, ⟨by decide, by decide⟩, by decide +kernel⟩, (Or.inl wd_841), wd_842⟩
theorem cm_X8_18 : mm_cI "LessonCards$Memory" 18 yX8_init cX8_init 1 0 := ⟨⟨wd_270, wd_57, ⟨by decide, by decide⟩, by decide +kernel⟩, (Or.inl wd_579), wd_269, rfl⟩
theorem cm_X8_19 : mm_cV "LessonCards$Memory" 19 9 yX8_become cX8_become 2 none 1 := ⟨⟨wd_583, wd_57, ⟨by decide, by decide⟩, by decide +kernel⟩, by decide, rfl, (Or.inl wd_580), wd_581, wd_582⟩
theorem cm_X8_72 : mm_cV "LessonCards$Memory" 72 9 yX8_isKnown cX8_isKnown 3 (some .boolean) 2 := ⟨⟨wd_548, wd_57, ⟨by decide, by decide⟩, by decide +kernel⟩, by decide, rfl, (Or.inl wd_710), wd_546, wd_547⟩
theorem cm_X8_88 : mm_cS "LessonCards$Memory" 88 yX8_boundedStrength cX8_boundedStrength 2 (some .int) 1 := ⟨⟨wd_638, wd_57, ⟨by decide, by decide⟩, by decide +kernel⟩, (Or.inl wd_636), wd_637⟩
theorem cm_X8_95 : mm_cS "LessonCards$Memory" 95 yX8_boundedEase cX8_boundedEase 1 (some .int) 1 := ⟨⟨wd_649, wd_57, ⟨by decide, by decide⟩, by decide +kernel⟩, (Or.inl wd_647), wd_648⟩
theorem cm_X8_82 : mm_cV "LessonCards$Memory" 82 9 yX8_moveByStrengths cX8_moveByStrengths 5 none 2 := ⟨⟨wd_634, wd_57, ⟨by decide, by decide⟩, by decide +kernel⟩, by decide, rfl, (Or.inl wd_631), wd_633, wd_10⟩
theorem cm_X8_79 : mm_cS "LessonCards$Memory" 79 yX8_firstStrength cX8_firstStrength 1 (some .int) 1 := ⟨⟨wd_630, wd_57, ⟨by decide, by decide⟩, by decide +kernel⟩, (Or.inl wd_628), wd_629⟩
theorem cm_X8_75 : mm_cV "LessonCards$Memory" 75 9 yX8_moveByBoxes cX8_moveByBoxes 2 none 1 := ⟨⟨wd_625, wd_57, ⟨by decide, by decide⟩, by decide +kernel⟩, by decide, rfl, (Or.inl wd_622), wd_624, wd_9⟩
theorem cm_X9_11 : mm_cI "LessonCards" 11 yX1_init cX1_init 4 0 := ⟨⟨wd_78, wd_47, ⟨by decide, by decide⟩, by decide +kernel⟩, (Or.inl wd_76), wd_77, rfl⟩
theorem cm_X9_18 : mm_cI "LessonCards" 18 yX2_init cX2_init 1 0 := ⟨⟨wd_93, wd_48, ⟨by decide, by decide⟩, by decide +kernel⟩, (Or.inr ⟨_, wn_91⟩), wd_92, rfl⟩
theorem cm_X9_29 : mm_cI "LessonCards" 29 yX6_init cX6_init 1 0 := ⟨⟨wd_137, wd_52, ⟨by decide, by decide⟩, by decide +kernel⟩, (Or.inr ⟨_, wn_135⟩), wd_136, rfl⟩
theorem cm_X9_36 : mm_cI "LessonCards" 36 yJx4a65c_init_da8c8 cJx4a65c_init_da8c8 1 0 := ⟨⟨wd_99, wd_51, ⟨by decide, by decide⟩, by decide +kernel⟩, (Or.inl wd_158), wd_98, rfl⟩
theorem cm_X9_43 : mm_cI "LessonCards" 43 yX4_init cX4_init 1 0 := ⟨⟨wd_163, wd_53, ⟨by decide, by decide⟩, by decide +kernel⟩, (Or.inr ⟨_, wn_161⟩), wd_162, rfl⟩
theorem cm_X9_50 : mm_cI "LessonCards" 50 yX7_init cX7_init 1 0 := ⟨⟨wd_185, wd_54, ⟨by decide, by decide⟩, by decide +kernel⟩, (Or.inr ⟨_, wn_183⟩), wd_184, rfl⟩
theorem cm_X9_69 : mm_cV "LessonCards" 69 3 yX2_size cX2_size 1 (some .int) 0 := ⟨⟨wd_250, wd_48, ⟨by decide, by decide⟩, by decide +kernel⟩, by decide, rfl, (Or.inl wd_247), wd_248, wd_249⟩
theorem cm_X9_73 : mm_cV "LessonCards" 73 7 yX6_addCard cX6_addCard 2 none 1 := ⟨⟨wd_258, wd_52, ⟨by decide, by decide⟩, by decide +kernel⟩, by decide, rfl, (Or.inl wd_255), wd_256, wd_257⟩
theorem cm_X9_77 : mm_cV "LessonCards" 77 3 yX2_addCard cX2_addCard 1 (some .int) 0 := ⟨⟨wd_363, wd_48, ⟨by decide, by decide⟩, by decide +kernel⟩, by decide, rfl, (Or.inl wd_360), wd_361, wd_362⟩
theorem cm_X9_79 : mm_cV "LessonCards" 79 3 yX2_cardAt cX2_cardAt 2 (some (.object "LessonCards$Card")) 1 := ⟨⟨wd_389, wd_48, ⟨by decide, by decide⟩, by decide +kernel⟩, by decide, rfl, (Or.inl wd_386), wd_387, wd_388⟩
theorem cm_X9_83 : mm_cV "LessonCards" 83 1 yX0_leansOn cX0_leansOn 3 (some .boolean) 1 := ⟨⟨wd_407, wd_62, ⟨by decide, by decide⟩, by decide +kernel⟩, by decide, rfl, (Or.inl wd_404), wd_405, wd_406⟩
theorem cm_X9_89 : mm_cV "LessonCards" 89 3 yX2_leadsTo cX2_leadsTo 7 (some .boolean) 2 := ⟨⟨wd_411, wd_48, ⟨by decide, by decide⟩, by decide +kernel⟩, by decide, rfl, (Or.inl wd_408), wd_409, wd_410⟩
theorem cm_X9_93 : mm_cV "LessonCards" 93 1 yX0_addLean cX0_addLean 2 (some .int) 1 := ⟨⟨wd_420, wd_62, ⟨by decide, by decide⟩, by decide +kernel⟩, by decide, rfl, (Or.inl wd_417), wd_418, wd_419⟩
theorem cm_X9_97 : mm_cS "LessonCards" 97 yX9_isRule cX9_isRule 1 (some .boolean) 1 := ⟨⟨wd_427, wd_46, ⟨by decide, by decide⟩, by decide +kernel⟩, (Or.inl wd_425), wd_426⟩
theorem cm_X9_100 : mm_cS "LessonCards" 100 yX9_isAnswer cX9_isAnswer 1 (some .boolean) 1 := ⟨⟨wd_434, wd_46, ⟨by decide, by decide⟩, by decide +kernel⟩, (Or.inl wd_432), wd_433⟩
theorem cm_X9_104 : mm_cV "LessonCards" 104 10 yX9_learnerAt cX9_learnerAt 2 (some (.object "LessonCards$Learner")) 1 := ⟨⟨wd_447, wd_46, ⟨by decide, by decide⟩, by decide +kernel⟩, by decide, rfl, (Or.inl wd_444), wd_446, wd_4⟩
theorem cm_X9_111 : mm_cV "LessonCards" 111 7 yX6_beginDay cX6_beginDay 3 none 1 := ⟨⟨wd_451, wd_52, ⟨by decide, by decide⟩, by decide +kernel⟩, by decide, rfl, (Or.inl wd_448), wd_449, wd_450⟩
theorem cm_X9_117 : mm_cV "LessonCards" 117 7 yX6_askDue cX6_askDue 5 none 2 := ⟨⟨wd_469, wd_52, ⟨by decide, by decide⟩, by decide +kernel⟩, by decide, rfl, (Or.inl wd_466), wd_467, wd_468⟩
theorem cm_X9_121 : mm_cV "LessonCards" 121 7 yX6_askFresh cX6_askFresh 7 none 3 := ⟨⟨wd_523, wd_52, ⟨by decide, by decide⟩, by decide +kernel⟩, by decide, rfl, (Or.inl wd_520), wd_521, wd_522⟩
theorem cm_X9_125 : mm_cV "LessonCards" 125 7 yX6_first cX6_first 1 (some .int) 0 := ⟨⟨wd_556, wd_52, ⟨by decide, by decide⟩, by decide +kernel⟩, by decide, rfl, (Or.inl wd_553), wd_554, wd_555⟩
theorem cm_X9_128 : mm_cV "LessonCards" 128 0 yJx4a65c_size_8abf5 cJx4a65c_size_8abf5 1 (some .int) 0 := ⟨⟨wd_254, wd_51, ⟨by decide, by decide⟩, by decide +kernel⟩, by decide, rfl, (Or.inl wd_561), wd_252, wd_253⟩
theorem cm_X9_129 : mm_cV "LessonCards" 129 7 yX6_memoryAt cX6_memoryAt 3 (some (.object "LessonCards$Memory")) 1 := ⟨⟨wd_509, wd_52, ⟨by decide, by decide⟩, by decide +kernel⟩, by decide, rfl, (Or.inl wd_562), wd_507, wd_508⟩
theorem cm_X9_133 : mm_cV "LessonCards" 133 7 yX6_dropFirst cX6_dropFirst 1 none 0 := ⟨⟨wd_566, wd_52, ⟨by decide, by decide⟩, by decide +kernel⟩, by decide, rfl, (Or.inl wd_563), wd_564, wd_565⟩
theorem cm_X9_138 : mm_cV "LessonCards" 138 9 yX8_copy cX8_copy 2 (some (.object "LessonCards$Memory")) 0 := ⟨⟨wd_577, wd_57, ⟨by decide, by decide⟩, by decide +kernel⟩, by decide, rfl, (Or.inl wd_574), wd_575, wd_576⟩
theorem cm_X9_144 : mm_cI "LessonCards" 144 yX3_init cX3_init 8 7 := ⟨⟨wd_586, wd_65, ⟨by decide, by decide⟩, by decide +kernel⟩, (Or.inl wd_584), wd_585, rfl⟩
theorem cm_X9_147 : mm_cV "LessonCards" 147 0 yJx4a65c_add_9ea2d cJx4a65c_add_9ea2d 2 (some .boolean) 1 := ⟨⟨wd_304, wd_51, ⟨by decide, by decide⟩, by decide +kernel⟩, by decide, rfl, (Or.inl wd_617), wd_302, wd_303⟩
theorem cm_X9_151 : mm_cV "LessonCards" 151 9 yX8_move cX8_move 6 none 5 := ⟨⟨wd_621, wd_57, ⟨by decide, by decide⟩, by decide +kernel⟩, by decide, rfl, (Or.inl wd_618), wd_619, wd_620⟩
theorem cm_X9_155 : mm_cV "LessonCards" 155 9 yX8_comesBack cX8_comesBack 1 (some .boolean) 0 := ⟨⟨wd_655, wd_57, ⟨by decide, by decide⟩, by decide +kernel⟩, by decide, rfl, (Or.inl wd_652), wd_653, wd_654⟩
theorem cm_X9_159 : mm_cV "LessonCards" 159 7 yX6_append cX6_append 2 none 1 := ⟨⟨wd_497, wd_52, ⟨by decide, by decide⟩, by decide +kernel⟩, by decide, rfl, (Or.inl wd_660), wd_495, wd_496⟩
theorem cm_X9_229 : mm_cV "LessonCards" 229 7 yX6_memoryOf cX6_memoryOf 4 (some (.object "LessonCards$Memory")) 2 := ⟨⟨wd_676, wd_52, ⟨by decide, by decide⟩, by decide +kernel⟩, by decide, rfl, (Or.inl wd_673), wd_674, wd_675⟩
theorem cm_X9_162 : mm_cV "LessonCards" 162 10 yX9_memoryOf cX9_memoryOf 5 (some (.object "LessonCards$Memory")) 3 := ⟨⟨wd_672, wd_46, ⟨by decide, by decide⟩, by decide +kernel⟩, by decide, rfl, (Or.inl wd_669), wd_671, wd_11⟩
theorem cm_X9_170 : mm_cS "LessonCards" 170 yX9_placeOf cX9_placeOf 2 (some .int) 2 := ⟨⟨wd_493, wd_46, ⟨by decide, by decide⟩, by decide +kernel⟩, (Or.inl wd_677), wd_492⟩
theorem cm_X9_174 : mm_cV "LessonCards" 174 7 yX6_drop cX6_drop 4 none 1 := ⟨⟨wd_571, wd_52, ⟨by decide, by decide⟩, by decide +kernel⟩, by decide, rfl, (Or.inl wd_678), wd_569, wd_570⟩
theorem cm_Jx4a65c_144 : mm_cV "java/util/ArrayList" 144 0 yJx4a65c_fastRemove_b59b0 cJx4a65c_fastRemove_b59b0 4 none 2 := ⟨⟨wd_694, wd_51, ⟨by decide, by decide⟩, by decide +kernel⟩, by decide, rfl, (Or.inl wd_691), wd_693, wd_12⟩
theorem cm_X9_177 : mm_cV "LessonCards" 177 0 yJx4a65c_isEmpty_aae02 cJx4a65c_isEmpty_aae02 1 (some .boolean) 0 := ⟨⟨wd_686, wd_51, ⟨by decide, by decide⟩, by decide +kernel⟩, by decide, rfl, (Or.inl wd_683), wd_684, wd_685⟩
theorem cm_X9_180 : mm_cV "LessonCards" 180 0 yJx4a65c_remove_915e3 cJx4a65c_remove_915e3 4 (some (.object "java/lang/Object")) 1 := ⟨⟨wd_690, wd_51, ⟨by decide, by decide⟩, by decide +kernel⟩, by decide, rfl, (Or.inl wd_687), wd_688, wd_689⟩
theorem cm_X9_194 : mm_cV "LessonCards" 194 9 yX8_become cX8_become 2 none 1 := ⟨⟨wd_583, wd_57, ⟨by decide, by decide⟩, by decide +kernel⟩, by decide, rfl, (Or.inl wd_696), wd_581, wd_582⟩
theorem cm_X9_201 : mm_cV "LessonCards" 201 9 yX8_tellOn cX8_tellOn 4 (some .int) 3 := ⟨⟨wd_708, wd_57, ⟨by decide, by decide⟩, by decide +kernel⟩, by decide, rfl, (Or.inl wd_705), wd_706, wd_707⟩
theorem cm_X9_198 : mm_cV "LessonCards" 198 9 yX8_tell cX8_tell 2 (some .int) 1 := ⟨⟨wd_704, wd_57, ⟨by decide, by decide⟩, by decide +kernel⟩, by decide, rfl, (Or.inl wd_701), wd_702, wd_703⟩
theorem cm_X9_205 : mm_cV "LessonCards" 205 9 yX8_isToCome cX8_isToCome 1 (some .boolean) 0 := ⟨⟨wd_481, wd_57, ⟨by decide, by decide⟩, by decide +kernel⟩, by decide, rfl, (Or.inl wd_715), wd_479, wd_480⟩
theorem cm_X9_208 : mm_cV "LessonCards" 208 9 yX8_firstDue cX8_firstDue 4 (some .int) 2 := ⟨⟨wd_719, wd_57, ⟨by decide, by decide⟩, by decide +kernel⟩, by decide, rfl, (Or.inl wd_716), wd_717, wd_718⟩
theorem cm_X9_216 : mm_cV "LessonCards" 216 7 yX6_countSides cX6_countSides 5 (some .int) 2 := ⟨⟨wd_731, wd_52, ⟨by decide, by decide⟩, by decide +kernel⟩, by decide, rfl, (Or.inl wd_728), wd_729, wd_730⟩
theorem cm_X9_212 : mm_cV "LessonCards" 212 7 yX6_countKnown cX6_countKnown 4 (some .int) 1 := ⟨⟨wd_727, wd_52, ⟨by decide, by decide⟩, by decide +kernel⟩, by decide, rfl, (Or.inl wd_724), wd_725, wd_726⟩
theorem cm_X9_219 : mm_cV "LessonCards" 219 7 yX6_handAt cX6_handAt 2 (some (.object "LessonCards$Hand")) 1 := ⟨⟨wd_513, wd_52, ⟨by decide, by decide⟩, by decide +kernel⟩, by decide, rfl, (Or.inl wd_744), wd_511, wd_512⟩
theorem cm_X9_223 : mm_cV "LessonCards" 223 6 yX5_isKnown cX5_isKnown 4 (some .boolean) 2 := ⟨⟨wd_544, wd_56, ⟨by decide, by decide⟩, by decide +kernel⟩, by decide, rfl, (Or.inl wd_745), wd_542, wd_543⟩
theorem cm_X9_232 : mm_cV "LessonCards" 232 9 yX8_chanceOn cX8_chanceOn 3 (some .int) 2 := ⟨⟨wd_485, wd_57, ⟨by decide, by decide⟩, by decide +kernel⟩, by decide, rfl, (Or.inl wd_750), wd_483, wd_484⟩
theorem cm_X9_296 : mm_cV "LessonCards" 296 6 yX5_mostUrgent cX5_mostUrgent 8 (some .int) 2 := ⟨⟨wd_473, wd_56, ⟨by decide, by decide⟩, by decide +kernel⟩, by decide, rfl, (Or.inl wd_765), wd_471, wd_472⟩
theorem cm_X9_299 : mm_cV "LessonCards" 299 6 yX5_memoryAt cX5_memoryAt 2 (some (.object "LessonCards$Memory")) 1 := ⟨⟨wd_517, wd_56, ⟨by decide, by decide⟩, by decide +kernel⟩, by decide, rfl, (Or.inl wd_766), wd_515, wd_516⟩
theorem cm_X9_300 : mm_cV "LessonCards" 300 6 yX5_forgetToday cX5_forgetToday 2 none 0 := ⟨⟨wd_457, wd_56, ⟨by decide, by decide⟩, by decide +kernel⟩, by decide, rfl, (Or.inl wd_767), wd_455, wd_456⟩
theorem cm_X9_235 : mm_cV "LessonCards" 235 6 yX5_become cX5_become 4 none 1 := ⟨⟨wd_758, wd_56, ⟨by decide, by decide⟩, by decide +kernel⟩, by decide, rfl, (Or.inl wd_755), wd_756, wd_757⟩
theorem cm_X9_238 : mm_cV "LessonCards" 238 10 yX9_isAskedOn cX9_isAskedOn 7 (some .boolean) 3 := ⟨⟨wd_764, wd_46, ⟨by decide, by decide⟩, by decide +kernel⟩, by decide, rfl, (Or.inl wd_761), wd_763, wd_13⟩
theorem cm_X9_242 : mm_cV "LessonCards" 242 5 yX4_gather cX4_gather 5 none 2 := ⟨⟨wd_775, wd_53, ⟨by decide, by decide⟩, by decide +kernel⟩, by decide, rfl, (Or.inl wd_772), wd_773, wd_774⟩
theorem cm_X9_246 : mm_cV "LessonCards" 246 5 yX4_leastGreatest cX4_leastGreatest 3 (some .int) 1 := ⟨⟨wd_786, wd_53, ⟨by decide, by decide⟩, by decide +kernel⟩, by decide, rfl, (Or.inl wd_783), wd_784, wd_785⟩
theorem cm_X9_249 : mm_cV "LessonCards" 249 5 yX4_loadOn cX4_loadOn 2 (some .int) 1 := ⟨⟨wd_802, wd_53, ⟨by decide, by decide⟩, by decide +kernel⟩, by decide, rfl, (Or.inl wd_799), wd_800, wd_801⟩
theorem cm_X9_252 : mm_cV "LessonCards" 252 5 yX4_dayOf cX4_dayOf 2 (some .int) 1 := ⟨⟨wd_810, wd_53, ⟨by decide, by decide⟩, by decide +kernel⟩, by decide, rfl, (Or.inl wd_807), wd_808, wd_809⟩
theorem cm_X9_255 : mm_cV "LessonCards" 255 8 yX7_begin cX7_begin 5 none 3 := ⟨⟨wd_818, wd_54, ⟨by decide, by decide⟩, by decide +kernel⟩, by decide, rfl, (Or.inl wd_815), wd_816, wd_817⟩
theorem cm_X9_259 : mm_cV "LessonCards" 259 8 yX7_bestQuestion cX7_bestQuestion 7 (some .int) 0 := ⟨⟨wd_823, wd_54, ⟨by decide, by decide⟩, by decide +kernel⟩, by decide, rfl, (Or.inl wd_820), wd_821, wd_822⟩
theorem cm_X9_268 : mm_cV "LessonCards" 268 8 yX7_hear cX7_hear 6 none 2 := ⟨⟨wd_840, wd_54, ⟨by decide, by decide⟩, by decide +kernel⟩, by decide, rfl, (Or.inl wd_837), wd_838, wd_839⟩
theorem cm_X9_272 : mm_cV "LessonCards" 272 8 yX7_weightOf cX7_weightOf 2 (some .long) 1 := ⟨⟨wd_856, wd_54, ⟨by decide, by decide⟩, by decide +kernel⟩, by decide, rfl, (Or.inl wd_853), wd_854, wd_855⟩
theorem cm_X9_276 : mm_cV "LessonCards" 276 8 yX7_likeliest cX7_likeliest 5 (some .int) 0 := ⟨⟨wd_865, wd_54, ⟨by decide, by decide⟩, by decide +kernel⟩, by decide, rfl, (Or.inl wd_862), wd_863, wd_864⟩
theorem cm_X9_279 : mm_cV "LessonCards" 279 0 yJx4a65c_get_915e3 cJx4a65c_get_915e3 2 (some (.object "java/lang/Object")) 1 := ⟨⟨wd_393, wd_51, ⟨by decide, by decide⟩, by decide +kernel⟩, by decide, rfl, (Or.inl wd_874), wd_391, wd_392⟩
theorem cm_X9_282 : mm_cV "LessonCards" 282 4 yX3_tell cX3_tell 2 (some .int) 1 := ⟨⟨wd_878, wd_65, ⟨by decide, by decide⟩, by decide +kernel⟩, by decide, rfl, (Or.inl wd_875), wd_876, wd_877⟩
theorem cm_X9_303 : mm_cV "LessonCards" 303 7 yX6_forgetAll cX6_forgetAll 2 none 0 := ⟨⟨wd_891, wd_52, ⟨by decide, by decide⟩, by decide +kernel⟩, by decide, rfl, (Or.inl wd_888), wd_889, wd_890⟩
theorem cm_X9_306 : mm_cV "LessonCards" 306 9 yX8_isFresh cX8_isFresh 1 (some .boolean) 0 := ⟨⟨wd_531, wd_57, ⟨by decide, by decide⟩, by decide +kernel⟩, by decide, rfl, (Or.inl wd_900), wd_529, wd_530⟩
theorem cm_X9_315 : mm_cV "LessonCards" 315 10 yX9_retellOne cX9_retellOne 4 none 3 := ⟨⟨wd_904, wd_46, ⟨by decide, by decide⟩, by decide +kernel⟩, by decide, rfl, (Or.inl wd_901), wd_903, wd_21⟩
theorem cm_X9_285 : mm_cV "LessonCards" 285 10 yX9_retell cX9_retell 9 (some .long) 2 := ⟨⟨wd_887, wd_46, ⟨by decide, by decide⟩, by decide +kernel⟩, by decide, rfl, (Or.inl wd_884), wd_886, wd_20⟩
theorem cm_X9_292 : mm_cV "LessonCards" 292 7 yX6_isLike cX6_isLike 4 (some .boolean) 1 := ⟨⟨wd_920, wd_52, ⟨by decide, by decide⟩, by decide +kernel⟩, by decide, rfl, (Or.inl wd_917), wd_918, wd_919⟩
theorem cm_X10_119 : mm_cV "LessonCardsModel" 119 11 yX10_isCard cX10_isCard 2 (some .boolean) 1 := ⟨⟨wd_1094, wd_55, ⟨by decide, by decide⟩, by decide +kernel⟩, by decide, rfl, (Or.inl wd_1091), wd_1093, wd_22⟩
theorem cm_X10_123 : mm_cS "LessonCardsModel" 123 yX10_within cX10_within 3 (some .boolean) 3 := ⟨⟨wd_1086, wd_55, ⟨by decide, by decide⟩, by decide +kernel⟩, (Or.inl wd_1084), wd_1085⟩
theorem cm_X10_127 : mm_cV "LessonCardsModel" 127 11 yX10_leads cX10_leads 6 (some .boolean) 2 := ⟨⟨wd_1098, wd_55, ⟨by decide, by decide⟩, by decide +kernel⟩, by decide, rfl, (Or.inl wd_1095), wd_1097, wd_23⟩
theorem cm_X10_158 : mm_cS "LessonCardsModel" 158 yX10_kept cX10_kept 6 (some .long) 3 := ⟨⟨wd_1173, wd_55, ⟨by decide, by decide⟩, by decide +kernel⟩, (Or.inl wd_1171), wd_1172⟩
theorem cm_X10_162 : mm_cV "LessonCardsModel" 162 11 yX10_chance cX10_chance 7 (some .int) 1 := ⟨⟨wd_1142, wd_55, ⟨by decide, by decide⟩, by decide +kernel⟩, by decide, rfl, (Or.inl wd_1139), wd_1141, wd_28⟩
theorem cm_X10_166 : mm_cV "LessonCardsModel" 166 11 yX10_byStrengths cX10_byStrengths 6 none 2 := ⟨⟨wd_1177, wd_55, ⟨by decide, by decide⟩, by decide +kernel⟩, by decide, rfl, (Or.inl wd_1174), wd_1176, wd_33⟩
theorem cm_X10_176 : mm_cV "LessonCardsModel" 176 11 yX10_isLeech cX10_isLeech 1 (some .boolean) 0 := ⟨⟨wd_1138, wd_55, ⟨by decide, by decide⟩, by decide +kernel⟩, by decide, rfl, (Or.inl wd_1135), wd_1137, wd_27⟩
theorem cm_X10_180 : mm_cV "LessonCardsModel" 180 11 yX10_take cX10_take 2 none 1 := ⟨⟨wd_1130, wd_55, ⟨by decide, by decide⟩, by decide +kernel⟩, by decide, rfl, (Or.inl wd_1127), wd_1129, wd_25⟩
theorem cm_X10_184 : mm_cV "LessonCardsModel" 184 11 yX10_isDue cX10_isDue 2 (some .boolean) 1 := ⟨⟨wd_1134, wd_55, ⟨by decide, by decide⟩, by decide +kernel⟩, by decide, rfl, (Or.inl wd_1131), wd_1133, wd_26⟩
theorem cm_X10_187 : mm_cV "LessonCardsModel" 187 11 yX10_isKnownSide cX10_isKnownSide 4 (some .boolean) 3 := ⟨⟨wd_1155, wd_55, ⟨by decide, by decide⟩, by decide +kernel⟩, by decide, rfl, (Or.inl wd_1152), wd_1154, wd_31⟩
theorem cm_X10_190 : mm_cS "LessonCardsModel" 190 yX10_isPupil cX10_isPupil 1 (some .boolean) 1 := ⟨⟨wd_1118, wd_55, ⟨by decide, by decide⟩, by decide +kernel⟩, (Or.inl wd_1116), wd_1117⟩
theorem cm_X10_196 : mm_cV "LessonCardsModel" 196 11 yX10_isKnown cX10_isKnown 5 (some .boolean) 2 := ⟨⟨wd_1151, wd_55, ⟨by decide, by decide⟩, by decide +kernel⟩, by decide, rfl, (Or.inl wd_1148), wd_1150, wd_30⟩
theorem cm_X10_203 : mm_cV "LessonCardsModel" 203 11 yX10_leanedOn cX10_leanedOn 5 (some .int) 2 := ⟨⟨wd_1147, wd_55, ⟨by decide, by decide⟩, by decide +kernel⟩, by decide, rfl, (Or.inl wd_1144), wd_1146, wd_29⟩
theorem cm_X10_199 : mm_cV "LessonCardsModel" 199 11 yX10_dueSide cX10_dueSide 10 (some .int) 4 := ⟨⟨wd_1126, wd_55, ⟨by decide, by decide⟩, by decide +kernel⟩, by decide, rfl, (Or.inl wd_1123), wd_1125, wd_24⟩
theorem cm_X10_210 : mm_cV "LessonCardsModel" 210 11 yX10_answerBy cX10_answerBy 7 none 4 := ⟨⟨wd_1167, wd_55, ⟨by decide, by decide⟩, by decide +kernel⟩, by decide, rfl, (Or.inl wd_1164), wd_1166, wd_32⟩
theorem cm_X10_214 : mm_cV "LessonCardsModel" 214 11 yX10_give cX10_give 2 none 1 := ⟨⟨wd_1184, wd_55, ⟨by decide, by decide⟩, by decide +kernel⟩, by decide, rfl, (Or.inl wd_1181), wd_1183, wd_34⟩
theorem cm_X10_217 : mm_cV "LessonCardsModel" 217 11 yX10_dropFirst cX10_dropFirst 3 none 1 := ⟨⟨wd_1188, wd_55, ⟨by decide, by decide⟩, by decide +kernel⟩, by decide, rfl, (Or.inl wd_1185), wd_1187, wd_35⟩
theorem cm_X10_220 : mm_cV "LessonCardsModel" 220 11 yX10_isSide cX10_isSide 3 (some .boolean) 2 := ⟨⟨wd_1200, wd_55, ⟨by decide, by decide⟩, by decide +kernel⟩, by decide, rfl, (Or.inl wd_1197), wd_1199, wd_36⟩
theorem cm_X10_223 : mm_cV "LessonCardsModel" 223 11 yX10_firstDue cX10_firstDue 4 (some .int) 2 := ⟨⟨wd_1216, wd_55, ⟨by decide, by decide⟩, by decide +kernel⟩, by decide, rfl, (Or.inl wd_1213), wd_1215, wd_37⟩
theorem cm_X10_226 : mm_cV "LessonCardsModel" 226 11 yX10_sidesThat cX10_sidesThat 6 (some .int) 2 := ⟨⟨wd_1224, wd_55, ⟨by decide, by decide⟩, by decide +kernel⟩, by decide, rfl, (Or.inl wd_1221), wd_1223, wd_38⟩
theorem cm_X10_229 : mm_cV "LessonCardsModel" 229 11 yX10_memory cX10_memory 6 (some .int) 4 := ⟨⟨wd_1208, wd_55, ⟨by decide, by decide⟩, by decide +kernel⟩, by decide, rfl, (Or.inl wd_1233), wd_1206, wd_1207⟩
theorem cm_X10_236 : mm_cV "LessonCardsModel" 236 11 yX10_putAll cX10_putAll 8 (some .boolean) 3 := ⟨⟨wd_1245, wd_55, ⟨by decide, by decide⟩, by decide +kernel⟩, by decide, rfl, (Or.inl wd_1242), wd_1244, wd_39⟩
theorem cm_X10_248 : mm_cV "LessonCardsModel" 248 11 yX10_greatest cX10_greatest 8 (some .long) 2 := ⟨⟨wd_1265, wd_55, ⟨by decide, by decide⟩, by decide +kernel⟩, by decide, rfl, (Or.inl wd_1262), wd_1264, wd_41⟩
theorem cm_X10_255 : mm_cV "LessonCardsModel" 255 11 yX10_bestQuestion cX10_bestQuestion 3 (some .int) 0 := ⟨⟨wd_1261, wd_55, ⟨by decide, by decide⟩, by decide +kernel⟩, by decide, rfl, (Or.inl wd_1258), wd_1260, wd_40⟩
theorem cm_X10_263 : mm_cV "LessonCardsModel" 263 11 yX10_begin cX10_begin 1 none 0 := ⟨⟨wd_1303, wd_55, ⟨by decide, by decide⟩, by decide +kernel⟩, by decide, rfl, (Or.inl wd_1300), wd_1302, wd_44⟩
theorem cm_X10_266 : mm_cV "LessonCardsModel" 266 11 yX10_replay cX10_replay 7 (some .long) 2 := ⟨⟨wd_1299, wd_55, ⟨by decide, by decide⟩, by decide +kernel⟩, by decide, rfl, (Or.inl wd_1296), wd_1298, wd_43⟩
theorem cm_X10_270 : mm_cV "LessonCardsModel" 270 11 yX10_surpriseOf cX10_surpriseOf 6 (some .long) 2 := ⟨⟨wd_1295, wd_55, ⟨by decide, by decide⟩, by decide +kernel⟩, by decide, rfl, (Or.inl wd_1292), wd_1294, wd_42⟩
theorem cm_L_9 : mm_cI "LessonCardsLaw" 9 yX9_init cX9_init 2 0 := ⟨⟨wd_70, wd_46, ⟨by decide, by decide⟩, by decide +kernel⟩, (Or.inl wd_68), wd_69, rfl⟩
theorem cm_L_12 : mm_cI "LessonCardsLaw" 12 yX10_init cX10_init 2 0 := ⟨⟨wd_933, wd_55, ⟨by decide, by decide⟩, by decide +kernel⟩, (Or.inl wd_931), wd_932, rfl⟩
theorem cm_L_140 : mm_cV "LessonCardsLaw" 140 10 yX9_check cX9_check 3 (some .int) 1 := ⟨⟨wd_916, wd_46, ⟨by decide, by decide⟩, by decide +kernel⟩, by decide, rfl, (Or.inl wd_913), wd_914, wd_915⟩
theorem cm_L_143 : mm_cV "LessonCardsLaw" 143 11 yX10_check cX10_check 6 (some .int) 1 := ⟨⟨wd_1315, wd_55, ⟨by decide, by decide⟩, by decide +kernel⟩, by decide, rfl, (Or.inl wd_1312), wd_1313, wd_1314⟩
theorem cm_L_136 : mm_cV "LessonCardsLaw" 136 10 yX9_other cX9_other 6 (some .int) 4 := ⟨⟨wd_912, wd_46, ⟨by decide, by decide⟩, by decide +kernel⟩, by decide, rfl, (Or.inl wd_909), wd_910, wd_911⟩
theorem cm_L_139 : mm_cV "LessonCardsLaw" 139 11 yX10_other cX10_other 7 (some .int) 4 := ⟨⟨wd_1311, wd_55, ⟨by decide, by decide⟩, by decide +kernel⟩, by decide, rfl, (Or.inl wd_1308), wd_1309, wd_1310⟩
theorem cm_L_132 : mm_cV "LessonCardsLaw" 132 10 yX9_better cX9_better 8 (some .int) 1 := ⟨⟨wd_908, wd_46, ⟨by decide, by decide⟩, by decide +kernel⟩, by decide, rfl, (Or.inl wd_905), wd_906, wd_907⟩
theorem cm_L_135 : mm_cV "LessonCardsLaw" 135 11 yX10_better cX10_better 4 (some .int) 1 := ⟨⟨wd_1307, wd_55, ⟨by decide, by decide⟩, by decide +kernel⟩, by decide, rfl, (Or.inl wd_1304), wd_1305, wd_1306⟩
theorem cm_L_127 : mm_cV "LessonCardsLaw" 127 10 yX9_surprise cX9_surprise 3 (some .long) 2 := ⟨⟨wd_882, wd_46, ⟨by decide, by decide⟩, by decide +kernel⟩, by decide, rfl, (Or.inl wd_879), wd_880, wd_881⟩
theorem cm_L_131 : mm_cV "LessonCardsLaw" 131 11 yX10_surprise cX10_surprise 3 (some .long) 2 := ⟨⟨wd_1291, wd_55, ⟨by decide, by decide⟩, by decide +kernel⟩, by decide, rfl, (Or.inl wd_1288), wd_1289, wd_1290⟩
theorem cm_L_123 : mm_cV "LessonCardsLaw" 123 10 yX9_logged cX9_logged 3 (some .int) 2 := ⟨⟨wd_873, wd_46, ⟨by decide, by decide⟩, by decide +kernel⟩, by decide, rfl, (Or.inl wd_870), wd_871, wd_872⟩
theorem cm_L_126 : mm_cV "LessonCardsLaw" 126 11 yX10_logged cX10_logged 4 (some .int) 2 := ⟨⟨wd_1287, wd_55, ⟨by decide, by decide⟩, by decide +kernel⟩, by decide, rfl, (Or.inl wd_1284), wd_1285, wd_1286⟩
theorem cm_L_119 : mm_cV "LessonCardsLaw" 119 10 yX9_log cX9_log 1 (some .int) 0 := ⟨⟨wd_869, wd_46, ⟨by decide, by decide⟩, by decide +kernel⟩, by decide, rfl, (Or.inl wd_866), wd_867, wd_868⟩
theorem cm_L_122 : mm_cV "LessonCardsLaw" 122 11 yX10_log cX10_log 1 (some .int) 0 := ⟨⟨wd_1283, wd_55, ⟨by decide, by decide⟩, by decide +kernel⟩, by decide, rfl, (Or.inl wd_1280), wd_1281, wd_1282⟩
theorem cm_L_115 : mm_cV "LessonCardsLaw" 115 10 yX9_level cX9_level 1 (some .int) 0 := ⟨⟨wd_861, wd_46, ⟨by decide, by decide⟩, by decide +kernel⟩, by decide, rfl, (Or.inl wd_858), wd_859, wd_860⟩
theorem cm_L_118 : mm_cV "LessonCardsLaw" 118 11 yX10_level cX10_level 3 (some .int) 0 := ⟨⟨wd_1279, wd_55, ⟨by decide, by decide⟩, by decide +kernel⟩, by decide, rfl, (Or.inl wd_1276), wd_1277, wd_1278⟩
theorem cm_L_110 : mm_cV "LessonCardsLaw" 110 10 yX9_weight cX9_weight 2 (some .long) 1 := ⟨⟨wd_852, wd_46, ⟨by decide, by decide⟩, by decide +kernel⟩, by decide, rfl, (Or.inl wd_849), wd_850, wd_851⟩
theorem cm_L_114 : mm_cV "LessonCardsLaw" 114 11 yX10_weight cX10_weight 2 (some .long) 1 := ⟨⟨wd_1274, wd_55, ⟨by decide, by decide⟩, by decide +kernel⟩, by decide, rfl, (Or.inl wd_1271), wd_1272, wd_1273⟩
theorem cm_L_106 : mm_cV "LessonCardsLaw" 106 10 yX9_told cX9_told 3 (some .int) 2 := ⟨⟨wd_836, wd_46, ⟨by decide, by decide⟩, by decide +kernel⟩, by decide, rfl, (Or.inl wd_833), wd_834, wd_835⟩
theorem cm_L_109 : mm_cV "LessonCardsLaw" 109 11 yX10_told cX10_told 10 (some .int) 2 := ⟨⟨wd_1269, wd_55, ⟨by decide, by decide⟩, by decide +kernel⟩, by decide, rfl, (Or.inl wd_1266), wd_1267, wd_1268⟩
theorem cm_L_102 : mm_cV "LessonCardsLaw" 102 10 yX9_test cX9_test 4 (some .int) 3 := ⟨⟨wd_814, wd_46, ⟨by decide, by decide⟩, by decide +kernel⟩, by decide, rfl, (Or.inl wd_811), wd_812, wd_813⟩
theorem cm_L_105 : mm_cV "LessonCardsLaw" 105 11 yX10_test cX10_test 5 (some .int) 3 := ⟨⟨wd_1257, wd_55, ⟨by decide, by decide⟩, by decide +kernel⟩, by decide, rfl, (Or.inl wd_1254), wd_1255, wd_1256⟩
theorem cm_L_98 : mm_cV "LessonCardsLaw" 98 10 yX9_put cX9_put 3 (some .int) 2 := ⟨⟨wd_806, wd_46, ⟨by decide, by decide⟩, by decide +kernel⟩, by decide, rfl, (Or.inl wd_803), wd_804, wd_805⟩
theorem cm_L_101 : mm_cV "LessonCardsLaw" 101 11 yX10_put cX10_put 3 (some .int) 2 := ⟨⟨wd_1253, wd_55, ⟨by decide, by decide⟩, by decide +kernel⟩, by decide, rfl, (Or.inl wd_1250), wd_1251, wd_1252⟩
theorem cm_L_94 : mm_cV "LessonCardsLaw" 94 10 yX9_load cX9_load 2 (some .int) 1 := ⟨⟨wd_798, wd_46, ⟨by decide, by decide⟩, by decide +kernel⟩, by decide, rfl, (Or.inl wd_795), wd_796, wd_797⟩
theorem cm_L_97 : mm_cV "LessonCardsLaw" 97 11 yX10_load cX10_load 2 (some .int) 1 := ⟨⟨wd_1249, wd_55, ⟨by decide, by decide⟩, by decide +kernel⟩, by decide, rfl, (Or.inl wd_1246), wd_1247, wd_1248⟩
theorem cm_L_90 : mm_cV "LessonCardsLaw" 90 10 yX9_even cX9_even 4 (some .int) 2 := ⟨⟨wd_771, wd_46, ⟨by decide, by decide⟩, by decide +kernel⟩, by decide, rfl, (Or.inl wd_768), wd_769, wd_770⟩
theorem cm_L_93 : mm_cV "LessonCardsLaw" 93 11 yX10_even cX10_even 8 (some .int) 2 := ⟨⟨wd_1241, wd_55, ⟨by decide, by decide⟩, by decide +kernel⟩, by decide, rfl, (Or.inl wd_1238), wd_1239, wd_1240⟩
theorem cm_L_86 : mm_cV "LessonCardsLaw" 86 10 yX9_plan cX9_plan 8 (some .int) 2 := ⟨⟨wd_754, wd_46, ⟨by decide, by decide⟩, by decide +kernel⟩, by decide, rfl, (Or.inl wd_751), wd_752, wd_753⟩
theorem cm_L_89 : mm_cV "LessonCardsLaw" 89 11 yX10_plan cX10_plan 10 (some .int) 2 := ⟨⟨wd_1237, wd_55, ⟨by decide, by decide⟩, by decide +kernel⟩, by decide, rfl, (Or.inl wd_1234), wd_1235, wd_1236⟩
theorem cm_L_82 : mm_cV "LessonCardsLaw" 82 10 yX9_mean cX9_mean 6 (some .int) 2 := ⟨⟨wd_749, wd_46, ⟨by decide, by decide⟩, by decide +kernel⟩, by decide, rfl, (Or.inl wd_746), wd_747, wd_748⟩
theorem cm_L_85 : mm_cV "LessonCardsLaw" 85 11 yX10_mean cX10_mean 5 (some .int) 2 := ⟨⟨wd_1232, wd_55, ⟨by decide, by decide⟩, by decide +kernel⟩, by decide, rfl, (Or.inl wd_1229), wd_1230, wd_1231⟩
theorem cm_L_78 : mm_cV "LessonCardsLaw" 78 10 yX9_known cX9_known 5 (some .int) 2 := ⟨⟨wd_743, wd_46, ⟨by decide, by decide⟩, by decide +kernel⟩, by decide, rfl, (Or.inl wd_740), wd_741, wd_742⟩
theorem cm_L_81 : mm_cV "LessonCardsLaw" 81 11 yX10_known cX10_known 3 (some .int) 2 := ⟨⟨wd_1228, wd_55, ⟨by decide, by decide⟩, by decide +kernel⟩, by decide, rfl, (Or.inl wd_1225), wd_1226, wd_1227⟩
theorem cm_L_74 : mm_cV "LessonCardsLaw" 74 10 yX9_pupil cX9_pupil 4 (some .int) 2 := ⟨⟨wd_723, wd_46, ⟨by decide, by decide⟩, by decide +kernel⟩, by decide, rfl, (Or.inl wd_720), wd_721, wd_722⟩
theorem cm_L_77 : mm_cV "LessonCardsLaw" 77 11 yX10_pupil cX10_pupil 5 (some .int) 2 := ⟨⟨wd_1220, wd_55, ⟨by decide, by decide⟩, by decide +kernel⟩, by decide, rfl, (Or.inl wd_1217), wd_1218, wd_1219⟩
theorem cm_L_70 : mm_cV "LessonCardsLaw" 70 10 yX9_when cX9_when 6 (some .int) 3 := ⟨⟨wd_714, wd_46, ⟨by decide, by decide⟩, by decide +kernel⟩, by decide, rfl, (Or.inl wd_711), wd_712, wd_713⟩
theorem cm_L_73 : mm_cV "LessonCardsLaw" 73 11 yX10_when cX10_when 4 (some .int) 3 := ⟨⟨wd_1212, wd_55, ⟨by decide, by decide⟩, by decide +kernel⟩, by decide, rfl, (Or.inl wd_1209), wd_1210, wd_1211⟩
theorem cm_L_65 : mm_cV "LessonCardsLaw" 65 10 yX9_memory cX9_memory 7 (some .int) 4 := ⟨⟨wd_700, wd_46, ⟨by decide, by decide⟩, by decide +kernel⟩, by decide, rfl, (Or.inl wd_697), wd_698, wd_699⟩
theorem cm_L_69 : mm_cV "LessonCardsLaw" 69 11 yX10_memory cX10_memory 6 (some .int) 4 := ⟨⟨wd_1208, wd_55, ⟨by decide, by decide⟩, by decide +kernel⟩, by decide, rfl, (Or.inl wd_1205), wd_1206, wd_1207⟩
theorem cm_L_60 : mm_cV "LessonCardsLaw" 60 10 yX9_undo cX9_undo 4 (some .int) 0 := ⟨⟨wd_682, wd_46, ⟨by decide, by decide⟩, by decide +kernel⟩, by decide, rfl, (Or.inl wd_679), wd_680, wd_681⟩
theorem cm_L_64 : mm_cV "LessonCardsLaw" 64 11 yX10_undo cX10_undo 2 (some .int) 0 := ⟨⟨wd_1204, wd_55, ⟨by decide, by decide⟩, by decide +kernel⟩, by decide, rfl, (Or.inl wd_1201), wd_1202, wd_1203⟩
theorem cm_L_55 : mm_cV "LessonCardsLaw" 55 10 yX9_bury cX9_bury 6 (some .int) 3 := ⟨⟨wd_668, wd_46, ⟨by decide, by decide⟩, by decide +kernel⟩, by decide, rfl, (Or.inl wd_665), wd_666, wd_667⟩
theorem cm_L_59 : mm_cV "LessonCardsLaw" 59 11 yX10_bury cX10_bury 6 (some .int) 3 := ⟨⟨wd_1196, wd_55, ⟨by decide, by decide⟩, by decide +kernel⟩, by decide, rfl, (Or.inl wd_1193), wd_1194, wd_1195⟩
theorem cm_L_51 : mm_cV "LessonCardsLaw" 51 10 yX9_skip cX9_skip 4 (some .int) 1 := ⟨⟨wd_664, wd_46, ⟨by decide, by decide⟩, by decide +kernel⟩, by decide, rfl, (Or.inl wd_661), wd_662, wd_663⟩
theorem cm_L_54 : mm_cV "LessonCardsLaw" 54 11 yX10_skip cX10_skip 3 (some .int) 1 := ⟨⟨wd_1192, wd_55, ⟨by decide, by decide⟩, by decide +kernel⟩, by decide, rfl, (Or.inl wd_1189), wd_1190, wd_1191⟩
theorem cm_L_47 : mm_cV "LessonCardsLaw" 47 10 yX9_answer cX9_answer 7 (some .int) 2 := ⟨⟨wd_560, wd_46, ⟨by decide, by decide⟩, by decide +kernel⟩, by decide, rfl, (Or.inl wd_557), wd_558, wd_559⟩
theorem cm_L_50 : mm_cV "LessonCardsLaw" 50 11 yX10_answer cX10_answer 5 (some .int) 2 := ⟨⟨wd_1163, wd_55, ⟨by decide, by decide⟩, by decide +kernel⟩, by decide, rfl, (Or.inl wd_1160), wd_1161, wd_1162⟩
theorem cm_L_43 : mm_cV "LessonCardsLaw" 43 10 yX9_next cX9_next 3 (some .int) 1 := ⟨⟨wd_552, wd_46, ⟨by decide, by decide⟩, by decide +kernel⟩, by decide, rfl, (Or.inl wd_549), wd_550, wd_551⟩
theorem cm_L_46 : mm_cV "LessonCardsLaw" 46 11 yX10_next cX10_next 2 (some .int) 1 := ⟨⟨wd_1159, wd_55, ⟨by decide, by decide⟩, by decide +kernel⟩, by decide, rfl, (Or.inl wd_1156), wd_1157, wd_1158⟩
theorem cm_L_39 : mm_cV "LessonCardsLaw" 39 10 yX9_start cX9_start 3 (some .int) 1 := ⟨⟨wd_465, wd_46, ⟨by decide, by decide⟩, by decide +kernel⟩, by decide, rfl, (Or.inl wd_462), wd_463, wd_464⟩
theorem cm_L_42 : mm_cV "LessonCardsLaw" 42 11 yX10_start cX10_start 9 (some .int) 1 := ⟨⟨wd_1122, wd_55, ⟨by decide, by decide⟩, by decide +kernel⟩, by decide, rfl, (Or.inl wd_1119), wd_1120, wd_1121⟩
theorem cm_L_35 : mm_cV "LessonCardsLaw" 35 10 yX9_day cX9_day 4 (some .int) 2 := ⟨⟨wd_443, wd_46, ⟨by decide, by decide⟩, by decide +kernel⟩, by decide, rfl, (Or.inl wd_440), wd_441, wd_442⟩
theorem cm_L_38 : mm_cV "LessonCardsLaw" 38 11 yX10_day cX10_day 4 (some .int) 2 := ⟨⟨wd_1115, wd_55, ⟨by decide, by decide⟩, by decide +kernel⟩, by decide, rfl, (Or.inl wd_1112), wd_1113, wd_1114⟩
theorem cm_L_31 : mm_cV "LessonCardsLaw" 31 10 yX9_most cX9_most 3 (some .int) 2 := ⟨⟨wd_439, wd_46, ⟨by decide, by decide⟩, by decide +kernel⟩, by decide, rfl, (Or.inl wd_436), wd_437, wd_438⟩
theorem cm_L_34 : mm_cV "LessonCardsLaw" 34 11 yX10_most cX10_most 3 (some .int) 2 := ⟨⟨wd_1111, wd_55, ⟨by decide, by decide⟩, by decide +kernel⟩, by decide, rfl, (Or.inl wd_1108), wd_1109, wd_1110⟩
theorem cm_L_27 : mm_cV "LessonCardsLaw" 27 10 yX9_table cX9_table 4 (some .int) 2 := ⟨⟨wd_431, wd_46, ⟨by decide, by decide⟩, by decide +kernel⟩, by decide, rfl, (Or.inl wd_428), wd_429, wd_430⟩
theorem cm_L_30 : mm_cV "LessonCardsLaw" 30 11 yX10_table cX10_table 4 (some .int) 2 := ⟨⟨wd_1106, wd_55, ⟨by decide, by decide⟩, by decide +kernel⟩, by decide, rfl, (Or.inl wd_1103), wd_1104, wd_1105⟩
theorem cm_L_23 : mm_cV "LessonCardsLaw" 23 10 yX9_rule cX9_rule 3 (some .int) 1 := ⟨⟨wd_424, wd_46, ⟨by decide, by decide⟩, by decide +kernel⟩, by decide, rfl, (Or.inl wd_421), wd_422, wd_423⟩
theorem cm_L_26 : mm_cV "LessonCardsLaw" 26 11 yX10_rule cX10_rule 3 (some .int) 1 := ⟨⟨wd_1102, wd_55, ⟨by decide, by decide⟩, by decide +kernel⟩, by decide, rfl, (Or.inl wd_1099), wd_1100, wd_1101⟩
theorem cm_L_18 : mm_cV "LessonCardsLaw" 18 10 yX9_lean cX9_lean 4 (some .int) 2 := ⟨⟨wd_385, wd_46, ⟨by decide, by decide⟩, by decide +kernel⟩, by decide, rfl, (Or.inl wd_382), wd_383, wd_384⟩
theorem cm_L_22 : mm_cV "LessonCardsLaw" 22 11 yX10_lean cX10_lean 4 (some .int) 2 := ⟨⟨wd_1090, wd_55, ⟨by decide, by decide⟩, by decide +kernel⟩, by decide, rfl, (Or.inl wd_1087), wd_1088, wd_1089⟩
theorem cm_L_13 : mm_cV "LessonCardsLaw" 13 10 yX9_card cX9_card 3 (some .int) 1 := ⟨⟨wd_246, wd_46, ⟨by decide, by decide⟩, by decide +kernel⟩, by decide, rfl, (Or.inl wd_243), wd_244, wd_245⟩
theorem cm_L_17 : mm_cV "LessonCardsLaw" 17 11 yX10_card cX10_card 2 (some .int) 1 := ⟨⟨wd_1083, wd_55, ⟨by decide, by decide⟩, by decide +kernel⟩, by decide, rfl, (Or.inl wd_1080), wd_1081, wd_1082⟩
