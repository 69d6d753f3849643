noncomputable def f_X8_tellOn_99 (M : mm_M) : Option (Int32) :=
  some (-2)
set_option maxRecDepth 20000 in
theorem w_X8_tellOn_99 {g : mm_c} (C : mm_ok g cX8_tellOn "LessonCards$Memory" (some .int) "tellOn" 4 3 65 0 0) {M : mm_M} {res : Int32} (hf : f_X8_tellOn_99 M = some res) (ko : (fun z => mm_q g 0 0 (some (mm_i z)) M) res) : mm_X g 0 0 M 99 [] [] := by
  unfold f_X8_tellOn_99 at hf
  refine xr_bipush 101 C (v := (-2)) dX8_tellOn_99 (by decide) rfl ?_
  obtain rfl := Option.some.inj hf
  exact xr_iret C ko ⟨(Nat.le_of_ble_eq_true rfl), (Nat.le_of_ble_eq_true rfl)⟩ dX8_tellOn_101
noncomputable def f_X8_tellOn_36 (M : mm_M) (v0 : Option Nat) (v2 : Int32) (v3 : Option Nat) : Option (Int32) :=
  (mm_rc M v0 9).bind fun u39 =>
  (f_X8_chanceOn M v0 v2 v3).bind fun x39 =>
  some x39
set_option maxRecDepth 20000 in
theorem w_X8_tellOn_36 {g : mm_c} (C : mm_ok g cX8_tellOn "LessonCards$Memory" (some .int) "tellOn" 4 3 65 0 0) {M : mm_M} {v0 : Option Nat} {v2 : Int32} {v3 : Option Nat} {res : Int32} (hf : f_X8_tellOn_36 M v0 v2 v3 = some res) (ko : (fun z => mm_q g 0 0 (some (mm_i z)) M) res) : mm_X g 0 0 M 36 [(0, mm_r v0), (2, mm_i v2), (3, mm_r v3)] [] := by
  unfold f_X8_tellOn_36 at hf
  refine xr_aload_n 37 0 C dX8_tellOn_36 rfl rfl rfl ?_
  refine xr_iload_n 38 1 C dX8_tellOn_37 rfl rfl rfl ?_
  refine xr_aload_n 39 2 C dX8_tellOn_38 rfl rfl rfl ?_
  obtain ⟨u39, g39, hf⟩ := mm_bd_e hf
  obtain ⟨x39, h39, hf⟩ := mm_bd_e hf
  refine xr_callV 42 C [mm_i v2, mm_r v3] cm_X8_49 (fun l G cy => c_X8_chanceOn l G cy h39) g39 rfl rfl ⟨⟨Nat.le_of_ble_eq_true rfl, Nat.le_of_ble_eq_true rfl⟩, (Nat.le_of_ble_eq_true rfl), (Nat.le_of_ble_eq_true rfl)⟩ (Nat.le_of_ble_eq_true rfl) dX8_tellOn_39 rfl ?_
  obtain rfl := Option.some.inj hf
  exact xr_iret C ko ⟨(Nat.le_of_ble_eq_true rfl), (Nat.le_of_ble_eq_true rfl)⟩ dX8_tellOn_42
noncomputable def f_X8_tellOn_57 (M : mm_M) (s0 : Int32) : Option (Int32) :=
  some s0
set_option maxRecDepth 20000 in
theorem w_X8_tellOn_57 {g : mm_c} (C : mm_ok g cX8_tellOn "LessonCards$Memory" (some .int) "tellOn" 4 3 65 0 0) {M : mm_M} {s0 : Int32} {res : Int32} (hf : f_X8_tellOn_57 M s0 = some res) (ko : (fun z => mm_q g 0 0 (some (mm_i z)) M) res) : mm_X g 0 0 M 57 [] [mm_i s0] := by
  unfold f_X8_tellOn_57 at hf
  obtain rfl := Option.some.inj hf
  exact xr_iret C ko ⟨(Nat.le_of_ble_eq_true rfl), (Nat.le_of_ble_eq_true rfl)⟩ dX8_tellOn_57
noncomputable def f_X8_tellOn_52 (M : mm_M) : Option (Int32) :=
  f_X8_tellOn_57 M 1
set_option maxRecDepth 20000 in
theorem w_X8_tellOn_52 {g : mm_c} (C : mm_ok g cX8_tellOn "LessonCards$Memory" (some .int) "tellOn" 4 3 65 0 0) {M : mm_M} {res : Int32} (hf : f_X8_tellOn_52 M = some res) (ko : (fun z => mm_q g 0 0 (some (mm_i z)) M) res) : mm_X g 0 0 M 52 [] [] := by
  unfold f_X8_tellOn_52 at hf
  refine xr_iconst 53 C (v := 1) dX8_tellOn_52 (by decide) rfl ?_
  refine xr_goto 57 C dX8_tellOn_53 (by decide) ?_
  exact w_X8_tellOn_57 C hf ko
noncomputable def f_X8_tellOn_56 (M : mm_M) : Option (Int32) :=
  f_X8_tellOn_57 M 0
set_option maxRecDepth 20000 in
theorem w_X8_tellOn_56 {g : mm_c} (C : mm_ok g cX8_tellOn "LessonCards$Memory" (some .int) "tellOn" 4 3 65 0 0) {M : mm_M} {res : Int32} (hf : f_X8_tellOn_56 M = some res) (ko : (fun z => mm_q g 0 0 (some (mm_i z)) M) res) : mm_X g 0 0 M 56 [] [] := by
  unfold f_X8_tellOn_56 at hf
  refine xr_iconst 57 C (v := 0) dX8_tellOn_56 (by decide) rfl ?_
  exact w_X8_tellOn_57 C hf ko
noncomputable def f_X8_tellOn_43 (M : mm_M) (v0 : Option Nat) (v2 : Int32) (v3 : Option Nat) : Option (Int32) :=
  (mm_rc M v0 9).bind fun u46 =>
  (f_X8_isDue M v0 v2 v3).bind fun x46 =>
  if x46 = 0 then f_X8_tellOn_56 M else f_X8_tellOn_52 M
set_option maxRecDepth 20000 in
theorem w_X8_tellOn_43 {g : mm_c} (C : mm_ok g cX8_tellOn "LessonCards$Memory" (some .int) "tellOn" 4 3 65 0 0) {M : mm_M} {v0 : Option Nat} {v2 : Int32} {v3 : Option Nat} {res : Int32} (hf : f_X8_tellOn_43 M v0 v2 v3 = some res) (ko : (fun z => mm_q g 0 0 (some (mm_i z)) M) res) : mm_X g 0 0 M 43 [(0, mm_r v0), (2, mm_i v2), (3, mm_r v3)] [] := by
  unfold f_X8_tellOn_43 at hf
  refine xr_aload_n 44 0 C dX8_tellOn_43 rfl rfl rfl ?_
  refine xr_iload_n 45 1 C dX8_tellOn_44 rfl rfl rfl ?_
  refine xr_aload_n 46 2 C dX8_tellOn_45 rfl rfl rfl ?_
  obtain ⟨u46, g46, hf⟩ := mm_bd_e hf
  obtain ⟨x46, h46, hf⟩ := mm_bd_e hf
  refine xr_callV 49 C [mm_i v2, mm_r v3] cm_X8_53 (fun l G cy => c_X8_isDue l G cy h46) g46 rfl rfl ⟨⟨Nat.le_of_ble_eq_true rfl, Nat.le_of_ble_eq_true rfl⟩, (Nat.le_of_ble_eq_true rfl), (Nat.le_of_ble_eq_true rfl)⟩ (Nat.le_of_ble_eq_true rfl) dX8_tellOn_46 rfl ?_
  refine xr_if_eq 56 52 C dX8_tellOn_49 (by decide) rfl (fun hc => ?_) (fun hc => ?_)
  · replace hf := (if_pos hc).symm.trans hf
    refine xr_sub [] (lv2 := []) rfl ?_
    exact w_X8_tellOn_56 C hf ko
  · replace hf := (if_neg hc).symm.trans hf
    refine xr_sub [] (lv2 := []) rfl ?_
    exact w_X8_tellOn_52 C hf ko
noncomputable def f_X8_tellOn_72 (M : mm_M) (s0 : Int32) : Option (Int32) :=
  some s0
set_option maxRecDepth 20000 in
theorem w_X8_tellOn_72 {g : mm_c} (C : mm_ok g cX8_tellOn "LessonCards$Memory" (some .int) "tellOn" 4 3 65 0 0) {M : mm_M} {s0 : Int32} {res : Int32} (hf : f_X8_tellOn_72 M s0 = some res) (ko : (fun z => mm_q g 0 0 (some (mm_i z)) M) res) : mm_X g 0 0 M 72 [] [mm_i s0] := by
  unfold f_X8_tellOn_72 at hf
  obtain rfl := Option.some.inj hf
  exact xr_iret C ko ⟨(Nat.le_of_ble_eq_true rfl), (Nat.le_of_ble_eq_true rfl)⟩ dX8_tellOn_72
noncomputable def f_X8_tellOn_67 (M : mm_M) : Option (Int32) :=
  f_X8_tellOn_72 M 1
set_option maxRecDepth 20000 in
theorem w_X8_tellOn_67 {g : mm_c} (C : mm_ok g cX8_tellOn "LessonCards$Memory" (some .int) "tellOn" 4 3 65 0 0) {M : mm_M} {res : Int32} (hf : f_X8_tellOn_67 M = some res) (ko : (fun z => mm_q g 0 0 (some (mm_i z)) M) res) : mm_X g 0 0 M 67 [] [] := by
  unfold f_X8_tellOn_67 at hf
  refine xr_iconst 68 C (v := 1) dX8_tellOn_67 (by decide) rfl ?_
  refine xr_goto 72 C dX8_tellOn_68 (by decide) ?_
  exact w_X8_tellOn_72 C hf ko
noncomputable def f_X8_tellOn_71 (M : mm_M) : Option (Int32) :=
  f_X8_tellOn_72 M 0
set_option maxRecDepth 20000 in
theorem w_X8_tellOn_71 {g : mm_c} (C : mm_ok g cX8_tellOn "LessonCards$Memory" (some .int) "tellOn" 4 3 65 0 0) {M : mm_M} {res : Int32} (hf : f_X8_tellOn_71 M = some res) (ko : (fun z => mm_q g 0 0 (some (mm_i z)) M) res) : mm_X g 0 0 M 71 [] [] := by
  unfold f_X8_tellOn_71 at hf
  refine xr_iconst 72 C (v := 0) dX8_tellOn_71 (by decide) rfl ?_
  exact w_X8_tellOn_72 C hf ko
noncomputable def f_X8_tellOn_58 (M : mm_M) (v0 : Option Nat) (v2 : Int32) (v3 : Option Nat) : Option (Int32) :=
  (mm_rc M v0 9).bind fun u61 =>
  (f_X8_isKnown M v0 v2 v3).bind fun x61 =>
  if x61 = 0 then f_X8_tellOn_71 M else f_X8_tellOn_67 M
set_option maxRecDepth 20000 in
theorem w_X8_tellOn_58 {g : mm_c} (C : mm_ok g cX8_tellOn "LessonCards$Memory" (some .int) "tellOn" 4 3 65 0 0) {M : mm_M} {v0 : Option Nat} {v2 : Int32} {v3 : Option Nat} {res : Int32} (hf : f_X8_tellOn_58 M v0 v2 v3 = some res) (ko : (fun z => mm_q g 0 0 (some (mm_i z)) M) res) : mm_X g 0 0 M 58 [(0, mm_r v0), (2, mm_i v2), (3, mm_r v3)] [] := by
  unfold f_X8_tellOn_58 at hf
  refine xr_aload_n 59 0 C dX8_tellOn_58 rfl rfl rfl ?_
  refine xr_iload_n 60 1 C dX8_tellOn_59 rfl rfl rfl ?_
  refine xr_aload_n 61 2 C dX8_tellOn_60 rfl rfl rfl ?_
  obtain ⟨u61, g61, hf⟩ := mm_bd_e hf
  obtain ⟨x61, h61, hf⟩ := mm_bd_e hf
  refine xr_callV 64 C [mm_i v2, mm_r v3] cm_X8_72 (fun l G cy => c_X8_isKnown l G cy h61) g61 rfl rfl ⟨⟨Nat.le_of_ble_eq_true rfl, Nat.le_of_ble_eq_true rfl⟩, (Nat.le_of_ble_eq_true rfl), (Nat.le_of_ble_eq_true rfl)⟩ (Nat.le_of_ble_eq_true rfl) dX8_tellOn_61 rfl ?_
  refine xr_if_eq 71 67 C dX8_tellOn_64 (by decide) rfl (fun hc => ?_) (fun hc => ?_)
  · replace hf := (if_pos hc).symm.trans hf
    refine xr_sub [] (lv2 := []) rfl ?_
    exact w_X8_tellOn_71 C hf ko
  · replace hf := (if_neg hc).symm.trans hf
    refine xr_sub [] (lv2 := []) rfl ?_
    exact w_X8_tellOn_67 C hf ko
noncomputable def f_X8_tellOn_85 (M : mm_M) (s0 : Int32) : Option (Int32) :=
  some s0
set_option maxRecDepth 20000 in
theorem w_X8_tellOn_85 {g : mm_c} (C : mm_ok g cX8_tellOn "LessonCards$Memory" (some .int) "tellOn" 4 3 65 0 0) {M : mm_M} {s0 : Int32} {res : Int32} (hf : f_X8_tellOn_85 M s0 = some res) (ko : (fun z => mm_q g 0 0 (some (mm_i z)) M) res) : mm_X g 0 0 M 85 [] [mm_i s0] := by
  unfold f_X8_tellOn_85 at hf
  obtain rfl := Option.some.inj hf
  exact xr_iret C ko ⟨(Nat.le_of_ble_eq_true rfl), (Nat.le_of_ble_eq_true rfl)⟩ dX8_tellOn_85
noncomputable def f_X8_tellOn_80 (M : mm_M) : Option (Int32) :=
  f_X8_tellOn_85 M 1
set_option maxRecDepth 20000 in
theorem w_X8_tellOn_80 {g : mm_c} (C : mm_ok g cX8_tellOn "LessonCards$Memory" (some .int) "tellOn" 4 3 65 0 0) {M : mm_M} {res : Int32} (hf : f_X8_tellOn_80 M = some res) (ko : (fun z => mm_q g 0 0 (some (mm_i z)) M) res) : mm_X g 0 0 M 80 [] [] := by
  unfold f_X8_tellOn_80 at hf
  refine xr_iconst 81 C (v := 1) dX8_tellOn_80 (by decide) rfl ?_
  refine xr_goto 85 C dX8_tellOn_81 (by decide) ?_
  exact w_X8_tellOn_85 C hf ko
noncomputable def f_X8_tellOn_84 (M : mm_M) : Option (Int32) :=
  f_X8_tellOn_85 M 0
set_option maxRecDepth 20000 in
theorem w_X8_tellOn_84 {g : mm_c} (C : mm_ok g cX8_tellOn "LessonCards$Memory" (some .int) "tellOn" 4 3 65 0 0) {M : mm_M} {res : Int32} (hf : f_X8_tellOn_84 M = some res) (ko : (fun z => mm_q g 0 0 (some (mm_i z)) M) res) : mm_X g 0 0 M 84 [] [] := by
  unfold f_X8_tellOn_84 at hf
  refine xr_iconst 85 C (v := 0) dX8_tellOn_84 (by decide) rfl ?_
  exact w_X8_tellOn_85 C hf ko
noncomputable def f_X8_tellOn_73 (M : mm_M) (v0 : Option Nat) : Option (Int32) :=
  (mm_rc M v0 9).bind fun u74 =>
  (f_X8_isLeech M v0).bind fun x74 =>
  if x74 = 0 then f_X8_tellOn_84 M else f_X8_tellOn_80 M
set_option maxRecDepth 20000 in
theorem w_X8_tellOn_73 {g : mm_c} (C : mm_ok g cX8_tellOn "LessonCards$Memory" (some .int) "tellOn" 4 3 65 0 0) {M : mm_M} {v0 : Option Nat} {res : Int32} (hf : f_X8_tellOn_73 M v0 = some res) (ko : (fun z => mm_q g 0 0 (some (mm_i z)) M) res) : mm_X g 0 0 M 73 [(0, mm_r v0)] [] := by
  unfold f_X8_tellOn_73 at hf
  refine xr_aload_n 74 0 C dX8_tellOn_73 rfl rfl rfl ?_
  obtain ⟨u74, g74, hf⟩ := mm_bd_e hf
  obtain ⟨x74, h74, hf⟩ := mm_bd_e hf
  refine xr_callV 77 C [] cm_X8_60 (fun l G cy => c_X8_isLeech l G cy h74) g74 rfl rfl ⟨⟨Nat.le_of_ble_eq_true rfl, Nat.le_of_ble_eq_true rfl⟩, (Nat.le_of_ble_eq_true rfl), (Nat.le_of_ble_eq_true rfl)⟩ (Nat.le_of_ble_eq_true rfl) dX8_tellOn_74 rfl ?_
  refine xr_if_eq 84 80 C dX8_tellOn_77 (by decide) rfl (fun hc => ?_) (fun hc => ?_)
  · replace hf := (if_pos hc).symm.trans hf
    refine xr_sub [] (lv2 := []) rfl ?_
    exact w_X8_tellOn_84 C hf ko
  · replace hf := (if_neg hc).symm.trans hf
    refine xr_sub [] (lv2 := []) rfl ?_
    exact w_X8_tellOn_80 C hf ko
noncomputable def f_X8_tellOn_98 (M : mm_M) (s0 : Int32) : Option (Int32) :=
  some s0
set_option maxRecDepth 20000 in
theorem w_X8_tellOn_98 {g : mm_c} (C : mm_ok g cX8_tellOn "LessonCards$Memory" (some .int) "tellOn" 4 3 65 0 0) {M : mm_M} {s0 : Int32} {res : Int32} (hf : f_X8_tellOn_98 M s0 = some res) (ko : (fun z => mm_q g 0 0 (some (mm_i z)) M) res) : mm_X g 0 0 M 98 [] [mm_i s0] := by
  unfold f_X8_tellOn_98 at hf
  obtain rfl := Option.some.inj hf
  exact xr_iret C ko ⟨(Nat.le_of_ble_eq_true rfl), (Nat.le_of_ble_eq_true rfl)⟩ dX8_tellOn_98
noncomputable def f_X8_tellOn_93 (M : mm_M) : Option (Int32) :=
  f_X8_tellOn_98 M 1
set_option maxRecDepth 20000 in
theorem w_X8_tellOn_93 {g : mm_c} (C : mm_ok g cX8_tellOn "LessonCards$Memory" (some .int) "tellOn" 4 3 65 0 0) {M : mm_M} {res : Int32} (hf : f_X8_tellOn_93 M = some res) (ko : (fun z => mm_q g 0 0 (some (mm_i z)) M) res) : mm_X g 0 0 M 93 [] [] := by
  unfold f_X8_tellOn_93 at hf
  refine xr_iconst 94 C (v := 1) dX8_tellOn_93 (by decide) rfl ?_
  refine xr_goto 98 C dX8_tellOn_94 (by decide) ?_
  exact w_X8_tellOn_98 C hf ko
noncomputable def f_X8_tellOn_97 (M : mm_M) : Option (Int32) :=
  f_X8_tellOn_98 M 0
set_option maxRecDepth 20000 in
theorem w_X8_tellOn_97 {g : mm_c} (C : mm_ok g cX8_tellOn "LessonCards$Memory" (some .int) "tellOn" 4 3 65 0 0) {M : mm_M} {res : Int32} (hf : f_X8_tellOn_97 M = some res) (ko : (fun z => mm_q g 0 0 (some (mm_i z)) M) res) : mm_X g 0 0 M 97 [] [] := by
  unfold f_X8_tellOn_97 at hf
  refine xr_iconst 98 C (v := 0) dX8_tellOn_97 (by decide) rfl ?_
  exact w_X8_tellOn_98 C hf ko
noncomputable def f_X8_tellOn_86 (M : mm_M) (v0 : Option Nat) : Option (Int32) :=
  (mm_fI M v0 9 5).bind fun x87 =>
  if x87 = 0 then f_X8_tellOn_97 M else f_X8_tellOn_93 M
set_option maxRecDepth 20000 in
theorem w_X8_tellOn_86 {g : mm_c} (C : mm_ok g cX8_tellOn "LessonCards$Memory" (some .int) "tellOn" 4 3 65 0 0) {M : mm_M} {v0 : Option Nat} {res : Int32} (hf : f_X8_tellOn_86 M v0 = some res) (ko : (fun z => mm_q g 0 0 (some (mm_i z)) M) res) : mm_X g 0 0 M 86 [(0, mm_r v0)] [] := by
  unfold f_X8_tellOn_86 at hf
  refine xr_aload_n 87 0 C dX8_tellOn_86 rfl rfl rfl ?_
  obtain ⟨x87, h87, hf⟩ := mm_bd_e hf
  refine xr_getI 90 C cf_X8_32 rfl h87 dX8_tellOn_87 rfl ?_
  refine xr_if_eq 97 93 C dX8_tellOn_90 (by decide) rfl (fun hc => ?_) (fun hc => ?_)
  · replace hf := (if_pos hc).symm.trans hf
    refine xr_sub [] (lv2 := []) rfl ?_
    exact w_X8_tellOn_97 C hf ko
  · replace hf := (if_neg hc).symm.trans hf
    refine xr_sub [] (lv2 := []) rfl ?_
    exact w_X8_tellOn_93 C hf ko
noncomputable def f_X8_tellOn_0 (M : mm_M) (v0 : Option Nat) (v1 : Int32) (v2 : Int32) (v3 : Option Nat) : Option (Int32) :=
  if v1 = 5 then f_X8_tellOn_36 M v0 v2 v3 else if v1 = 6 then f_X8_tellOn_43 M v0 v2 v3 else if v1 = 7 then f_X8_tellOn_58 M v0 v2 v3 else if v1 = 8 then f_X8_tellOn_73 M v0 else if v1 = 9 then f_X8_tellOn_86 M v0 else f_X8_tellOn_99 M
set_option maxRecDepth 20000 in
theorem w_X8_tellOn_0 {g : mm_c} (C : mm_ok g cX8_tellOn "LessonCards$Memory" (some .int) "tellOn" 4 3 65 0 0) {M : mm_M} {v0 : Option Nat} {v1 : Int32} {v2 : Int32} {v3 : Option Nat} {res : Int32} (hf : f_X8_tellOn_0 M v0 v1 v2 v3 = some res) (ko : (fun z => mm_q g 0 0 (some (mm_i z)) M) res) : mm_X g 0 0 M 0 [(0, mm_r v0), (1, mm_i v1), (2, mm_i v2), (3, mm_r v3)] [] := by
  unfold f_X8_tellOn_0 at hf
  refine xr_iload_n 1 1 C dX8_tellOn_0 rfl rfl rfl ?_
  rcases mm_if_e hf with ⟨hc0, hf⟩ | ⟨hc0, hf⟩
  · refine xr_tin 36 C dX8_tellOn_1 (off := 35) hc0 (by decide) (by decide) (by decide) (by decide) ?_
    refine xr_sub [0, 2, 3] (lv2 := [(0, mm_r v0), (2, mm_i v2), (3, mm_r v3)]) rfl ?_
    exact w_X8_tellOn_36 C hf ko
  ·
    rcases mm_if_e hf with ⟨hc1, hf⟩ | ⟨hc1, hf⟩
    · refine xr_tin 43 C dX8_tellOn_1 (off := 42) hc1 (by decide) (by decide) (by decide) (by decide) ?_
      refine xr_sub [0, 2, 3] (lv2 := [(0, mm_r v0), (2, mm_i v2), (3, mm_r v3)]) rfl ?_
      exact w_X8_tellOn_43 C hf ko
    ·
      rcases mm_if_e hf with ⟨hc2, hf⟩ | ⟨hc2, hf⟩
      · refine xr_tin 58 C dX8_tellOn_1 (off := 57) hc2 (by decide) (by decide) (by decide) (by decide) ?_
        refine xr_sub [0, 2, 3] (lv2 := [(0, mm_r v0), (2, mm_i v2), (3, mm_r v3)]) rfl ?_
        exact w_X8_tellOn_58 C hf ko
      ·
        rcases mm_if_e hf with ⟨hc3, hf⟩ | ⟨hc3, hf⟩
        · refine xr_tin 73 C dX8_tellOn_1 (off := 72) hc3 (by decide) (by decide) (by decide) (by decide) ?_
          refine xr_sub [0] (lv2 := [(0, mm_r v0)]) rfl ?_
          exact w_X8_tellOn_73 C hf ko
        ·
          rcases mm_if_e hf with ⟨hc4, hf⟩ | ⟨hc4, hf⟩
          · refine xr_tin 86 C dX8_tellOn_1 (off := 85) hc4 (by decide) (by decide) (by decide) (by decide) ?_
            refine xr_sub [0] (lv2 := [(0, mm_r v0)]) rfl ?_
            exact w_X8_tellOn_86 C hf ko
          ·
            refine xr_tout 99 C dX8_tellOn_1 (mm_swd2 _ 5 9 (by decide) (fun k hk hk2 => by rcases (show k = 5 ∨ k = 6 ∨ k = 7 ∨ k = 8 ∨ k = 9 by omega) with rfl | rfl | rfl | rfl | rfl <;> assumption)) (by decide) ?_
            refine xr_sub [] (lv2 := []) rfl ?_
            exact w_X8_tellOn_99 C hf ko
noncomputable def f_X8_tellOn (M : mm_M) (v0 : Option Nat) (v1 : Int32) (v2 : Int32) (v3 : Option Nat) : Option (Int32) := f_X8_tellOn_0 M v0 v1 v2 v3
theorem c_X8_tellOn (l : Launch) (G : va_G) (cy : Nat → ClassId) {M : mm_M} {v0 : Option Nat} {v1 : Int32} {v2 : Int32} {v3 : Option Nat} {r : Int32} (hf : f_X8_tellOn M v0 v1 v2 v3 = some r) : mm_Met l yX8_tellOn cX8_tellOn 4 (some .int) 3 65 0 0 G cy [mm_r v0, mm_i v1, mm_i v2, mm_r v3] M (some (mm_i r)) M :=
  mm_enter (by decide) (Nat.le_of_ble_eq_true rfl) (fun p e R s m args below meth c Q C hq => xr_sub [0, 1, 2, 3] (lv2 := [(0, mm_r v0), (1, mm_i v1), (2, mm_i v2), (3, mm_r v3)]) rfl (w_X8_tellOn_0 C hf hq))
noncomputable def f_X8_comesBack_15 (M : mm_M) : Option (Int32 × mm_M) :=
  some (0, M)
set_option maxRecDepth 20000 in
theorem w_X8_comesBack_15 {g : mm_c} (C : mm_ok g cX8_comesBack "LessonCards$Memory" (some .boolean) "comesBack" 1 1 20 0 0) {M : mm_M} {res : Int32 × mm_M} (hf : f_X8_comesBack_15 M = some res) (ko : (fun z => mm_q g 0 0 (some (mm_i z.1)) z.2) res) : mm_X g 0 0 M 15 [] [] := by
  unfold f_X8_comesBack_15 at hf
  refine xr_iconst 16 C (v := 0) dX8_comesBack_15 (by decide) rfl ?_
  obtain rfl := Option.some.inj hf
  exact xr_zret C (by decide) ko ⟨(Nat.le_of_ble_eq_true rfl), (Nat.le_of_ble_eq_true rfl)⟩ dX8_comesBack_16
noncomputable def f_X8_comesBack_17 (M : mm_M) (v0 : Option Nat) : Option (Int32 × mm_M) :=
  (mm_fI M v0 9 6).bind fun x19 =>
  (mm_pI M v0 9 6 (x19 + 1)).bind fun M24 =>
  some (1, M24)
set_option maxRecDepth 20000 in
theorem w_X8_comesBack_17 {g : mm_c} (C : mm_ok g cX8_comesBack "LessonCards$Memory" (some .boolean) "comesBack" 1 1 20 0 0) {M : mm_M} {v0 : Option Nat} {res : Int32 × mm_M} (hf : f_X8_comesBack_17 M v0 = some res) (ko : (fun z => mm_q g 0 0 (some (mm_i z.1)) z.2) res) : mm_X g 0 0 M 17 [(0, mm_r v0)] [] := by
  unfold f_X8_comesBack_17 at hf
  refine xr_aload_n 18 0 C dX8_comesBack_17 rfl rfl rfl ?_
  refine xr_dup 19 C dX8_comesBack_18 rfl rfl ?_
  obtain ⟨x19, h19, hf⟩ := mm_bd_e hf
  refine xr_getI 22 C cf_X8_36 rfl h19 dX8_comesBack_19 rfl ?_
  refine xr_iconst 23 C (v := 1) dX8_comesBack_22 (by decide) rfl ?_
  refine xr_iadd 24 C dX8_comesBack_23 rfl ?_
  obtain ⟨M24, h24, hf⟩ := mm_bd_e hf
  refine xr_putI 27 C cf_X8_36 (fun h => by cases h) h24 dX8_comesBack_24 rfl ?_
  refine xr_iconst 28 C (v := 1) dX8_comesBack_27 (by decide) rfl ?_
  obtain rfl := Option.some.inj hf
  exact xr_zret C (by decide) ko ⟨(Nat.le_of_ble_eq_true rfl), (Nat.le_of_ble_eq_true rfl)⟩ dX8_comesBack_28
noncomputable def f_X8_comesBack_7 (M : mm_M) (v0 : Option Nat) : Option (Int32 × mm_M) :=
  (mm_fI M v0 9 6).bind fun x8 =>
  if x8 < 2 then f_X8_comesBack_17 M v0 else f_X8_comesBack_15 M
set_option maxRecDepth 20000 in
theorem w_X8_comesBack_7 {g : mm_c} (C : mm_ok g cX8_comesBack "LessonCards$Memory" (some .boolean) "comesBack" 1 1 20 0 0) {M : mm_M} {v0 : Option Nat} {res : Int32 × mm_M} (hf : f_X8_comesBack_7 M v0 = some res) (ko : (fun z => mm_q g 0 0 (some (mm_i z.1)) z.2) res) : mm_X g 0 0 M 7 [(0, mm_r v0)] [] := by
  unfold f_X8_comesBack_7 at hf
  refine xr_aload_n 8 0 C dX8_comesBack_7 rfl rfl rfl ?_
  obtain ⟨x8, h8, hf⟩ := mm_bd_e hf
  refine xr_getI 11 C cf_X8_36 rfl h8 dX8_comesBack_8 rfl ?_
  refine xr_iconst 12 C (v := 2) dX8_comesBack_11 (by decide) rfl ?_
  refine xr_icmp_lt 17 15 C dX8_comesBack_12 (by decide) rfl (fun hc => ?_) (fun hc => ?_)
  · replace hf := (if_pos hc).symm.trans hf
    exact w_X8_comesBack_17 C hf ko
  · replace hf := (if_neg hc).symm.trans hf
    refine xr_sub [] (lv2 := []) rfl ?_
    exact w_X8_comesBack_15 C hf ko
noncomputable def f_X8_comesBack_0 (M : mm_M) (v0 : Option Nat) : Option (Int32 × mm_M) :=
  (mm_rc M v0 9).bind fun u1 =>
  (f_X8_isLeech M v0).bind fun x1 =>
  if x1 = 0 then f_X8_comesBack_7 M v0 else f_X8_comesBack_15 M
set_option maxRecDepth 20000 in
theorem w_X8_comesBack_0 {g : mm_c} (C : mm_ok g cX8_comesBack "LessonCards$Memory" (some .boolean) "comesBack" 1 1 20 0 0) {M : mm_M} {v0 : Option Nat} {res : Int32 × mm_M} (hf : f_X8_comesBack_0 M v0 = some res) (ko : (fun z => mm_q g 0 0 (some (mm_i z.1)) z.2) res) : mm_X g 0 0 M 0 [(0, mm_r v0)] [] := by
  unfold f_X8_comesBack_0 at hf
  refine xr_aload_n 1 0 C dX8_comesBack_0 rfl rfl rfl ?_
  obtain ⟨u1, g1, hf⟩ := mm_bd_e hf
  obtain ⟨x1, h1, hf⟩ := mm_bd_e hf
  refine xr_callV 4 C [] cm_X8_60 (fun l G cy => c_X8_isLeech l G cy h1) g1 rfl rfl ⟨⟨Nat.le_of_ble_eq_true rfl, Nat.le_of_ble_eq_true rfl⟩, (Nat.le_of_ble_eq_true rfl), (Nat.le_of_ble_eq_true rfl)⟩ (Nat.le_of_ble_eq_true rfl) dX8_comesBack_1 rfl ?_
  refine xr_if_ne 15 7 C dX8_comesBack_4 (by decide) rfl (fun hc => ?_) (fun hc => ?_)
  · replace hf := (if_neg hc).symm.trans hf
    refine xr_sub [] (lv2 := []) rfl ?_
    exact w_X8_comesBack_15 C hf ko
  · replace hf := (if_pos hc).symm.trans hf
    exact w_X8_comesBack_7 C hf ko
noncomputable def f_X8_comesBack (M : mm_M) (v0 : Option Nat) : Option (Int32 × mm_M) := f_X8_comesBack_0 M v0
theorem c_X8_comesBack (l : Launch) (G : va_G) (cy : Nat → ClassId) {M : mm_M} {v0 : Option Nat} {r : Int32} {M1 : mm_M} (hf : f_X8_comesBack M v0 = some (r, M1)) : mm_Met l yX8_comesBack cX8_comesBack 1 (some .boolean) 1 20 0 0 G cy [mm_r v0] M (some (mm_i r)) M1 :=
  mm_enter (by decide) (Nat.le_of_ble_eq_true rfl) (fun p e R s m args below meth c Q C hq => xr_sub [0] (lv2 := [(0, mm_r v0)]) rfl (w_X8_comesBack_0 C hf hq))
noncomputable def f_X8_boundedStrength_0 (M : mm_M) (v0 : Int64) : Option (Int32) :=
  some (((if (if v0 < 4000000 then v0 else 4000000) < 500 then 500 else (if v0 < 4000000 then v0 else 4000000))).toInt32)
set_option maxRecDepth 20000 in
theorem w_X8_boundedStrength_0 {g : mm_c} (C : mm_ok g cX8_boundedStrength "LessonCards$Memory" (some .int) "boundedStrength" 2 1 25 0 0) {M : mm_M} {v0 : Int64} {res : Int32} (hf : f_X8_boundedStrength_0 M v0 = some res) (ko : (fun z => mm_q g 0 0 (some (mm_i z)) M) res) : mm_X g 0 0 M 0 [(0, mm_j v0)] [] := by
  unfold f_X8_boundedStrength_0 at hf
  refine xr_ldc2 3 C wd_639 dX8_boundedStrength_0 rfl ?_
  refine xr_ldc2 6 C wd_640 dX8_boundedStrength_3 rfl ?_
  refine xr_lload_n 7 0 C dX8_boundedStrength_6 rfl rfl rfl ?_
  refine xr_mminL 10 C wd_641 wd_642 wd_59 wd_643 ⟨Nat.le_of_ble_eq_true rfl, Nat.le_of_ble_eq_true rfl, (Nat.le_of_ble_eq_true rfl), (Nat.le_of_ble_eq_true rfl)⟩ (Nat.le_of_ble_eq_true rfl) dX8_boundedStrength_7 rfl ?_
  refine xr_mmaxL 13 C wd_644 wd_645 wd_59 wd_646 ⟨Nat.le_of_ble_eq_true rfl, Nat.le_of_ble_eq_true rfl, (Nat.le_of_ble_eq_true rfl), (Nat.le_of_ble_eq_true rfl)⟩ (Nat.le_of_ble_eq_true rfl) dX8_boundedStrength_10 rfl ?_
  refine xr_l2i 14 C dX8_boundedStrength_13 rfl ?_
  obtain rfl := Option.some.inj hf
  exact xr_iret C ko ⟨(Nat.le_of_ble_eq_true rfl), (Nat.le_of_ble_eq_true rfl)⟩ dX8_boundedStrength_14
noncomputable def f_X8_boundedStrength (M : mm_M) (v0 : Int64) : Option (Int32) := f_X8_boundedStrength_0 M v0
theorem c_X8_boundedStrength (l : Launch) (G : va_G) (cy : Nat → ClassId) {M : mm_M} {v0 : Int64} {r : Int32} (hf : f_X8_boundedStrength M v0 = some r) : mm_Met l yX8_boundedStrength cX8_boundedStrength 2 (some .int) 1 25 0 0 G cy [mm_j v0] M (some (mm_i r)) M :=
  mm_enter (by decide) (Nat.le_of_ble_eq_true rfl) (fun p e R s m args below meth c Q C hq => xr_sub [0] (lv2 := [(0, mm_j v0)]) rfl (w_X8_boundedStrength_0 C hf hq))
noncomputable def f_X8_boundedEase_0 (M : mm_M) (v0 : Int32) : Option (Int32) :=
  some (if 1300 < (if v0 < 3500 then v0 else 3500) then (if v0 < 3500 then v0 else 3500) else 1300)
set_option maxRecDepth 20000 in
theorem w_X8_boundedEase_0 {g : mm_c} (C : mm_ok g cX8_boundedEase "LessonCards$Memory" (some .int) "boundedEase" 1 1 21 0 0) {M : mm_M} {v0 : Int32} {res : Int32} (hf : f_X8_boundedEase_0 M v0 = some res) (ko : (fun z => mm_q g 0 0 (some (mm_i z)) M) res) : mm_X g 0 0 M 0 [(0, mm_i v0)] [] := by
  unfold f_X8_boundedEase_0 at hf
  refine xr_sipush 3 C (v := 1300) dX8_boundedEase_0 (by decide) rfl ?_
  refine xr_sipush 6 C (v := 3500) dX8_boundedEase_3 (by decide) rfl ?_
  refine xr_iload_n 7 0 C dX8_boundedEase_6 rfl rfl rfl ?_
  refine xr_mmin 10 C wd_626 wd_353 wd_59 wd_354 ⟨Nat.le_of_ble_eq_true rfl, Nat.le_of_ble_eq_true rfl, (Nat.le_of_ble_eq_true rfl), (Nat.le_of_ble_eq_true rfl)⟩ (Nat.le_of_ble_eq_true rfl) dX8_boundedEase_7 rfl ?_
  refine xr_mmax 13 C wd_650 wd_321 wd_59 wd_322 ⟨Nat.le_of_ble_eq_true rfl, Nat.le_of_ble_eq_true rfl, (Nat.le_of_ble_eq_true rfl), (Nat.le_of_ble_eq_true rfl)⟩ (Nat.le_of_ble_eq_true rfl) dX8_boundedEase_10 rfl ?_
  obtain rfl := Option.some.inj hf
  exact xr_iret C ko ⟨(Nat.le_of_ble_eq_true rfl), (Nat.le_of_ble_eq_true rfl)⟩ dX8_boundedEase_13
noncomputable def f_X8_boundedEase (M : mm_M) (v0 : Int32) : Option (Int32) := f_X8_boundedEase_0 M v0
theorem c_X8_boundedEase (l : Launch) (G : va_G) (cy : Nat → ClassId) {M : mm_M} {v0 : Int32} {r : Int32} (hf : f_X8_boundedEase M v0 = some r) : mm_Met l yX8_boundedEase cX8_boundedEase 1 (some .int) 1 21 0 0 G cy [mm_i v0] M (some (mm_i r)) M :=
  mm_enter (by decide) (Nat.le_of_ble_eq_true rfl) (fun p e R s m args below meth c Q C hq => xr_sub [0] (lv2 := [(0, mm_i v0)]) rfl (w_X8_boundedEase_0 C hf hq))
noncomputable def f_X8_moveByStrengths_167 (M : mm_M) : Option (mm_M) :=
  some M
set_option maxRecDepth 20000 in
theorem w_X8_moveByStrengths_167 {g : mm_c} (C : mm_ok g cX8_moveByStrengths "LessonCards$Memory" none "moveByStrengths" 5 2 46 0 0) {M : mm_M} {res : mm_M} (hf : f_X8_moveByStrengths_167 M = some res) (ko : (fun z => mm_q g 0 0 none z) res) : mm_X g 0 0 M 167 [] [] := by
  unfold f_X8_moveByStrengths_167 at hf
  obtain rfl := Option.some.inj hf
  exact xr_vret C ko ⟨(Nat.le_of_ble_eq_true rfl), (Nat.le_of_ble_eq_true rfl)⟩ dX8_moveByStrengths_167
noncomputable def f_X8_moveByStrengths_38 (M : mm_M) (v0 : Option Nat) : Option (mm_M) :=
  (mm_fI M v0 9 0).bind fun x40 =>
  (f_X8_boundedStrength M (((x40 / 5)).toInt64)).bind fun x46 =>
  (mm_pI M v0 9 0 x46).bind fun M49 =>
  (mm_fI M49 v0 9 1).bind fun x54 =>
  (f_X8_boundedEase M49 (x54 - 200)).bind fun x61 =>
  (mm_pI M49 v0 9 1 x61).bind fun M64 =>
  f_X8_moveByStrengths_167 M64
set_option maxRecDepth 20000 in
theorem w_X8_moveByStrengths_38 {g : mm_c} (C : mm_ok g cX8_moveByStrengths "LessonCards$Memory" none "moveByStrengths" 5 2 46 0 0) {M : mm_M} {v0 : Option Nat} {res : mm_M} (hf : f_X8_moveByStrengths_38 M v0 = some res) (ko : (fun z => mm_q g 0 0 none z) res) : mm_X g 0 0 M 38 [(0, mm_r v0)] [] := by
  unfold f_X8_moveByStrengths_38 at hf
  refine xr_aload_n 39 0 C dX8_moveByStrengths_38 rfl rfl rfl ?_
  refine xr_aload_n 40 0 C dX8_moveByStrengths_39 rfl rfl rfl ?_
  obtain ⟨x40, h40, hf⟩ := mm_bd_e hf
  refine xr_getI 43 C cf_X8_23 rfl h40 dX8_moveByStrengths_40 rfl ?_
  refine xr_iconst 44 C (v := 5) dX8_moveByStrengths_43 (by decide) rfl ?_
  refine xr_idiv 45 C dX8_moveByStrengths_44 (by decide) rfl ?_
  refine xr_i2l 46 C dX8_moveByStrengths_45 rfl ?_
  obtain ⟨x46, h46, hf⟩ := mm_bd_e hf
  refine xr_callS 49 C [mm_j (((x40 / 5)).toInt64)] cm_X8_88 (fun l G cy => c_X8_boundedStrength l G cy h46) rfl rfl ⟨⟨Nat.le_of_ble_eq_true rfl, Nat.le_of_ble_eq_true rfl⟩, (Nat.le_of_ble_eq_true rfl), (Nat.le_of_ble_eq_true rfl)⟩ (Nat.le_of_ble_eq_true rfl) dX8_moveByStrengths_46 rfl ?_
  obtain ⟨M49, h49, hf⟩ := mm_bd_e hf
  refine xr_putI 52 C cf_X8_23 (fun h => by cases h) h49 dX8_moveByStrengths_49 rfl ?_
  refine xr_aload_n 53 0 C dX8_moveByStrengths_52 rfl rfl rfl ?_
  refine xr_aload_n 54 0 C dX8_moveByStrengths_53 rfl rfl rfl ?_
  obtain ⟨x54, h54, hf⟩ := mm_bd_e hf
  refine xr_getI 57 C cf_X8_9 rfl h54 dX8_moveByStrengths_54 rfl ?_
  refine xr_sipush 60 C (v := 200) dX8_moveByStrengths_57 (by decide) rfl ?_
  refine xr_isub 61 C dX8_moveByStrengths_60 rfl ?_
  obtain ⟨x61, h61, hf⟩ := mm_bd_e hf
  refine xr_callS 64 C [mm_i (x54 - 200)] cm_X8_95 (fun l G cy => c_X8_boundedEase l G cy h61) rfl rfl ⟨⟨Nat.le_of_ble_eq_true rfl, Nat.le_of_ble_eq_true rfl⟩, (Nat.le_of_ble_eq_true rfl), (Nat.le_of_ble_eq_true rfl)⟩ (Nat.le_of_ble_eq_true rfl) dX8_moveByStrengths_61 rfl ?_
  obtain ⟨M64, h64, hf⟩ := mm_bd_e hf
  refine xr_putI 67 C cf_X8_9 (fun h => by cases h) h64 dX8_moveByStrengths_64 rfl ?_
  refine xr_goto 167 C dX8_moveByStrengths_67 (by decide) ?_
  refine xr_sub [] (lv2 := []) rfl ?_
  exact w_X8_moveByStrengths_167 C hf ko
noncomputable def f_X8_moveByStrengths_75 (M : mm_M) (v0 : Option Nat) (v2 : Int32) : Option (mm_M) :=
  (mm_fI M v0 9 0).bind fun x77 =>
  (f_X8_boundedStrength M (((x77.toInt64) * (((1000 + (1200 - v2))).toInt64)) / 1000)).bind fun x96 =>
  (mm_pI M v0 9 0 x96).bind fun M99 =>
  (mm_fI M99 v0 9 1).bind fun x104 =>
  (f_X8_boundedEase M99 (x104 - 150)).bind fun x111 =>
  (mm_pI M99 v0 9 1 x111).bind fun M114 =>
  f_X8_moveByStrengths_167 M114
set_option maxRecDepth 20000 in
theorem w_X8_moveByStrengths_75 {g : mm_c} (C : mm_ok g cX8_moveByStrengths "LessonCards$Memory" none "moveByStrengths" 5 2 46 0 0) {M : mm_M} {v0 : Option Nat} {v2 : Int32} {res : mm_M} (hf : f_X8_moveByStrengths_75 M v0 v2 = some res) (ko : (fun z => mm_q g 0 0 none z) res) : mm_X g 0 0 M 75 [(0, mm_r v0), (2, mm_i v2)] [] := by
  unfold f_X8_moveByStrengths_75 at hf
  refine xr_aload_n 76 0 C dX8_moveByStrengths_75 rfl rfl rfl ?_
  refine xr_aload_n 77 0 C dX8_moveByStrengths_76 rfl rfl rfl ?_
  obtain ⟨x77, h77, hf⟩ := mm_bd_e hf
  refine xr_getI 80 C cf_X8_23 rfl h77 dX8_moveByStrengths_77 rfl ?_
  refine xr_i2l 81 C dX8_moveByStrengths_80 rfl ?_
  refine xr_sipush 84 C (v := 1000) dX8_moveByStrengths_81 (by decide) rfl ?_
  refine xr_sipush 87 C (v := 1200) dX8_moveByStrengths_84 (by decide) rfl ?_
  refine xr_iload_n 88 1 C dX8_moveByStrengths_87 rfl rfl rfl ?_
  refine xr_isub 89 C dX8_moveByStrengths_88 rfl ?_
  refine xr_iadd 90 C dX8_moveByStrengths_89 rfl ?_
  refine xr_i2l 91 C dX8_moveByStrengths_90 rfl ?_
  refine xr_lmul 92 C dX8_moveByStrengths_91 rfl ?_
  refine xr_ldc2 95 C wd_635 dX8_moveByStrengths_92 rfl ?_
  refine xr_ldiv 96 C dX8_moveByStrengths_95 (by decide) rfl ?_
  obtain ⟨x96, h96, hf⟩ := mm_bd_e hf
  refine xr_callS 99 C [mm_j (((x77.toInt64) * (((1000 + (1200 - v2))).toInt64)) / 1000)] cm_X8_88 (fun l G cy => c_X8_boundedStrength l G cy h96) rfl rfl ⟨⟨Nat.le_of_ble_eq_true rfl, Nat.le_of_ble_eq_true rfl⟩, (Nat.le_of_ble_eq_true rfl), (Nat.le_of_ble_eq_true rfl)⟩ (Nat.le_of_ble_eq_true rfl) dX8_moveByStrengths_96 rfl ?_
  obtain ⟨M99, h99, hf⟩ := mm_bd_e hf
  refine xr_putI 102 C cf_X8_23 (fun h => by cases h) h99 dX8_moveByStrengths_99 rfl ?_
  refine xr_aload_n 103 0 C dX8_moveByStrengths_102 rfl rfl rfl ?_
  refine xr_aload_n 104 0 C dX8_moveByStrengths_103 rfl rfl rfl ?_
  obtain ⟨x104, h104, hf⟩ := mm_bd_e hf
  refine xr_getI 107 C cf_X8_9 rfl h104 dX8_moveByStrengths_104 rfl ?_
  refine xr_sipush 110 C (v := 150) dX8_moveByStrengths_107 (by decide) rfl ?_
  refine xr_isub 111 C dX8_moveByStrengths_110 rfl ?_
  obtain ⟨x111, h111, hf⟩ := mm_bd_e hf
  refine xr_callS 114 C [mm_i (x104 - 150)] cm_X8_95 (fun l G cy => c_X8_boundedEase l G cy h111) rfl rfl ⟨⟨Nat.le_of_ble_eq_true rfl, Nat.le_of_ble_eq_true rfl⟩, (Nat.le_of_ble_eq_true rfl), (Nat.le_of_ble_eq_true rfl)⟩ (Nat.le_of_ble_eq_true rfl) dX8_moveByStrengths_111 rfl ?_
  obtain ⟨M114, h114, hf⟩ := mm_bd_e hf
  refine xr_putI 117 C cf_X8_9 (fun h => by cases h) h114 dX8_moveByStrengths_114 rfl ?_
  refine xr_goto 167 C dX8_moveByStrengths_117 (by decide) ?_
  refine xr_sub [] (lv2 := []) rfl ?_
  exact w_X8_moveByStrengths_167 C hf ko
noncomputable def f_X8_moveByStrengths_125 (M : mm_M) (v0 : Option Nat) (v3 : Int64) : Option (mm_M) :=
  (f_X8_boundedStrength M v3).bind fun x127 =>
  (mm_pI M v0 9 0 x127).bind fun M130 =>
  f_X8_moveByStrengths_167 M130
set_option maxRecDepth 20000 in
theorem w_X8_moveByStrengths_125 {g : mm_c} (C : mm_ok g cX8_moveByStrengths "LessonCards$Memory" none "moveByStrengths" 5 2 46 0 0) {M : mm_M} {v0 : Option Nat} {v3 : Int64} {res : mm_M} (hf : f_X8_moveByStrengths_125 M v0 v3 = some res) (ko : (fun z => mm_q g 0 0 none z) res) : mm_X g 0 0 M 125 [(0, mm_r v0), (3, mm_j v3)] [] := by
  unfold f_X8_moveByStrengths_125 at hf
  refine xr_aload_n 126 0 C dX8_moveByStrengths_125 rfl rfl rfl ?_
  refine xr_lload_n 127 1 C dX8_moveByStrengths_126 rfl rfl rfl ?_
  obtain ⟨x127, h127, hf⟩ := mm_bd_e hf
  refine xr_callS 130 C [mm_j v3] cm_X8_88 (fun l G cy => c_X8_boundedStrength l G cy h127) rfl rfl ⟨⟨Nat.le_of_ble_eq_true rfl, Nat.le_of_ble_eq_true rfl⟩, (Nat.le_of_ble_eq_true rfl), (Nat.le_of_ble_eq_true rfl)⟩ (Nat.le_of_ble_eq_true rfl) dX8_moveByStrengths_127 rfl ?_
  obtain ⟨M130, h130, hf⟩ := mm_bd_e hf
  refine xr_putI 133 C cf_X8_23 (fun h => by cases h) h130 dX8_moveByStrengths_130 rfl ?_
  refine xr_goto 167 C dX8_moveByStrengths_133 (by decide) ?_
  refine xr_sub [] (lv2 := []) rfl ?_
  exact w_X8_moveByStrengths_167 C hf ko
noncomputable def f_X8_moveByStrengths_136 (M : mm_M) (v0 : Option Nat) (v3 : Int64) : Option (mm_M) :=
  (f_X8_boundedStrength M ((v3 * 1300) / 1000)).bind fun x146 =>
  (mm_pI M v0 9 0 x146).bind fun M149 =>
  (mm_fI M149 v0 9 1).bind fun x154 =>
  (f_X8_boundedEase M149 (x154 + 150)).bind fun x161 =>
  (mm_pI M149 v0 9 1 x161).bind fun M164 =>
  f_X8_moveByStrengths_167 M164
set_option maxRecDepth 20000 in
theorem w_X8_moveByStrengths_136 {g : mm_c} (C : mm_ok g cX8_moveByStrengths "LessonCards$Memory" none "moveByStrengths" 5 2 46 0 0) {M : mm_M} {v0 : Option Nat} {v3 : Int64} {res : mm_M} (hf : f_X8_moveByStrengths_136 M v0 v3 = some res) (ko : (fun z => mm_q g 0 0 none z) res) : mm_X g 0 0 M 136 [(0, mm_r v0), (3, mm_j v3)] [] := by
  unfold f_X8_moveByStrengths_136 at hf
  refine xr_aload_n 137 0 C dX8_moveByStrengths_136 rfl rfl rfl ?_
  refine xr_lload_n 138 1 C dX8_moveByStrengths_137 rfl rfl rfl ?_
  refine xr_ldc2 141 C wd_651 dX8_moveByStrengths_138 rfl ?_
  refine xr_lmul 142 C dX8_moveByStrengths_141 rfl ?_
  refine xr_ldc2 145 C wd_635 dX8_moveByStrengths_142 rfl ?_
  refine xr_ldiv 146 C dX8_moveByStrengths_145 (by decide) rfl ?_
  obtain ⟨x146, h146, hf⟩ := mm_bd_e hf
  refine xr_callS 149 C [mm_j ((v3 * 1300) / 1000)] cm_X8_88 (fun l G cy => c_X8_boundedStrength l G cy h146) rfl rfl ⟨⟨Nat.le_of_ble_eq_true rfl, Nat.le_of_ble_eq_true rfl⟩, (Nat.le_of_ble_eq_true rfl), (Nat.le_of_ble_eq_true rfl)⟩ (Nat.le_of_ble_eq_true rfl) dX8_moveByStrengths_146 rfl ?_
  obtain ⟨M149, h149, hf⟩ := mm_bd_e hf
  refine xr_putI 152 C cf_X8_23 (fun h => by cases h) h149 dX8_moveByStrengths_149 rfl ?_
  refine xr_aload_n 153 0 C dX8_moveByStrengths_152 rfl rfl rfl ?_
  refine xr_aload_n 154 0 C dX8_moveByStrengths_153 rfl rfl rfl ?_
  obtain ⟨x154, h154, hf⟩ := mm_bd_e hf
  refine xr_getI 157 C cf_X8_9 rfl h154 dX8_moveByStrengths_154 rfl ?_
  refine xr_sipush 160 C (v := 150) dX8_moveByStrengths_157 (by decide) rfl ?_
  refine xr_iadd 161 C dX8_moveByStrengths_160 rfl ?_
  obtain ⟨x161, h161, hf⟩ := mm_bd_e hf
  refine xr_callS 164 C [mm_i (x154 + 150)] cm_X8_95 (fun l G cy => c_X8_boundedEase l G cy h161) rfl rfl ⟨⟨Nat.le_of_ble_eq_true rfl, Nat.le_of_ble_eq_true rfl⟩, (Nat.le_of_ble_eq_true rfl), (Nat.le_of_ble_eq_true rfl)⟩ (Nat.le_of_ble_eq_true rfl) dX8_moveByStrengths_161 rfl ?_
  obtain ⟨M164, h164, hf⟩ := mm_bd_e hf
  refine xr_putI 167 C cf_X8_9 (fun h => by cases h) h164 dX8_moveByStrengths_164 rfl ?_
  refine xr_sub [] (lv2 := []) rfl ?_
  exact w_X8_moveByStrengths_167 C hf ko
noncomputable def f_X8_moveByStrengths_120 (M : mm_M) (v0 : Option Nat) (v1 : Int32) (v3 : Int64) : Option (mm_M) :=
  if v1 = 2 then f_X8_moveByStrengths_125 M v0 v3 else f_X8_moveByStrengths_136 M v0 v3
set_option maxRecDepth 20000 in
theorem w_X8_moveByStrengths_120 {g : mm_c} (C : mm_ok g cX8_moveByStrengths "LessonCards$Memory" none "moveByStrengths" 5 2 46 0 0) {M : mm_M} {v0 : Option Nat} {v1 : Int32} {v3 : Int64} {res : mm_M} (hf : f_X8_moveByStrengths_120 M v0 v1 v3 = some res) (ko : (fun z => mm_q g 0 0 none z) res) : mm_X g 0 0 M 120 [(0, mm_r v0), (1, mm_i v1), (3, mm_j v3)] [] := by
  unfold f_X8_moveByStrengths_120 at hf
  refine xr_iload_n 121 1 C dX8_moveByStrengths_120 rfl rfl rfl ?_
  refine xr_iconst 122 C (v := 2) dX8_moveByStrengths_121 (by decide) rfl ?_
  refine xr_icmp_ne 136 125 C dX8_moveByStrengths_122 (by decide) rfl (fun hc => ?_) (fun hc => ?_)
  · replace hf := (if_neg hc).symm.trans hf
    refine xr_sub [0, 2] (lv2 := [(0, mm_r v0), (3, mm_j v3)]) rfl ?_
    exact w_X8_moveByStrengths_136 C hf ko
  · replace hf := (if_pos hc).symm.trans hf
    refine xr_sub [0, 2] (lv2 := [(0, mm_r v0), (3, mm_j v3)]) rfl ?_
    exact w_X8_moveByStrengths_125 C hf ko
noncomputable def f_X8_moveByStrengths_70 (M : mm_M) (v0 : Option Nat) (v1 : Int32) (v2 : Int32) (v3 : Int64) : Option (mm_M) :=
  if v1 = 1 then f_X8_moveByStrengths_75 M v0 v2 else f_X8_moveByStrengths_120 M v0 v1 v3
set_option maxRecDepth 20000 in
theorem w_X8_moveByStrengths_70 {g : mm_c} (C : mm_ok g cX8_moveByStrengths "LessonCards$Memory" none "moveByStrengths" 5 2 46 0 0) {M : mm_M} {v0 : Option Nat} {v1 : Int32} {v2 : Int32} {v3 : Int64} {res : mm_M} (hf : f_X8_moveByStrengths_70 M v0 v1 v2 v3 = some res) (ko : (fun z => mm_q g 0 0 none z) res) : mm_X g 0 0 M 70 [(0, mm_r v0), (1, mm_i v1), (2, mm_i v2), (3, mm_j v3)] [] := by
  unfold f_X8_moveByStrengths_70 at hf
  refine xr_iload_n 71 1 C dX8_moveByStrengths_70 rfl rfl rfl ?_
  refine xr_iconst 72 C (v := 1) dX8_moveByStrengths_71 (by decide) rfl ?_
  refine xr_icmp_ne 120 75 C dX8_moveByStrengths_72 (by decide) rfl (fun hc => ?_) (fun hc => ?_)
  · replace hf := (if_neg hc).symm.trans hf
    refine xr_sub [0, 1, 3] (lv2 := [(0, mm_r v0), (1, mm_i v1), (3, mm_j v3)]) rfl ?_
    exact w_X8_moveByStrengths_120 C hf ko
  · replace hf := (if_pos hc).symm.trans hf
    refine xr_sub [0, 2] (lv2 := [(0, mm_r v0), (2, mm_i v2)]) rfl ?_
    exact w_X8_moveByStrengths_75 C hf ko
noncomputable def f_X8_moveByStrengths_0 (M : mm_M) (v0 : Option Nat) (v1 : Int32) (v2 : Int32) : Option (mm_M) :=
  (mm_fI M v0 9 0).bind fun x1 =>
  (mm_fI M v0 9 1).bind fun x9 =>
  if v1 = 0 then f_X8_moveByStrengths_38 M v0 else f_X8_moveByStrengths_70 M v0 v1 v2 (((x1.toInt64) * (((1000 + (((x9 - 1000) * (1900 - v2)) / 1000))).toInt64)) / 1000)
set_option maxRecDepth 20000 in
theorem w_X8_moveByStrengths_0 {g : mm_c} (C : mm_ok g cX8_moveByStrengths "LessonCards$Memory" none "moveByStrengths" 5 2 46 0 0) {M : mm_M} {v0 : Option Nat} {v1 : Int32} {v2 : Int32} {res : mm_M} (hf : f_X8_moveByStrengths_0 M v0 v1 v2 = some res) (ko : (fun z => mm_q g 0 0 none z) res) : mm_X g 0 0 M 0 [(0, mm_r v0), (1, mm_i v1), (2, mm_i v2)] [] := by
  unfold f_X8_moveByStrengths_0 at hf
  refine xr_aload_n 1 0 C dX8_moveByStrengths_0 rfl rfl rfl ?_
  obtain ⟨x1, h1, hf⟩ := mm_bd_e hf
  refine xr_getI 4 C cf_X8_23 rfl h1 dX8_moveByStrengths_1 rfl ?_
  refine xr_i2l 5 C dX8_moveByStrengths_4 rfl ?_
  refine xr_sipush 8 C (v := 1000) dX8_moveByStrengths_5 (by decide) rfl ?_
  refine xr_aload_n 9 0 C dX8_moveByStrengths_8 rfl rfl rfl ?_
  obtain ⟨x9, h9, hf⟩ := mm_bd_e hf
  refine xr_getI 12 C cf_X8_9 rfl h9 dX8_moveByStrengths_9 rfl ?_
  refine xr_sipush 15 C (v := 1000) dX8_moveByStrengths_12 (by decide) rfl ?_
  refine xr_isub 16 C dX8_moveByStrengths_15 rfl ?_
  refine xr_sipush 19 C (v := 1900) dX8_moveByStrengths_16 (by decide) rfl ?_
  refine xr_iload_n 20 2 C dX8_moveByStrengths_19 rfl rfl rfl ?_
  refine xr_isub 21 C dX8_moveByStrengths_20 rfl ?_
  refine xr_imul 22 C dX8_moveByStrengths_21 rfl ?_
  refine xr_sipush 25 C (v := 1000) dX8_moveByStrengths_22 (by decide) rfl ?_
  refine xr_idiv 26 C dX8_moveByStrengths_25 (by decide) rfl ?_
  refine xr_iadd 27 C dX8_moveByStrengths_26 rfl ?_
  refine xr_i2l 28 C dX8_moveByStrengths_27 rfl ?_
  refine xr_lmul 29 C dX8_moveByStrengths_28 rfl ?_
  refine xr_ldc2 32 C wd_635 dX8_moveByStrengths_29 rfl ?_
  refine xr_ldiv 33 C dX8_moveByStrengths_32 (by decide) rfl ?_
  refine xr_lstore_n 34 C dX8_moveByStrengths_33 rfl (by decide) rfl [(3, mm_j (((x1.toInt64) * (((1000 + (((x9 - 1000) * (1900 - v2)) / 1000))).toInt64)) / 1000)), (0, mm_r v0), (1, mm_i v1), (2, mm_i v2)] rfl ?_
  refine xr_iload_n 35 2 C dX8_moveByStrengths_34 rfl rfl rfl ?_
  refine xr_if_ne 70 38 C dX8_moveByStrengths_35 (by decide) rfl (fun hc => ?_) (fun hc => ?_)
  · replace hf := (if_neg hc).symm.trans hf
    refine xr_sub [1, 2, 3, 0] (lv2 := [(0, mm_r v0), (1, mm_i v1), (2, mm_i v2), (3, mm_j (((x1.toInt64) * (((1000 + (((x9 - 1000) * (1900 - v2)) / 1000))).toInt64)) / 1000))]) rfl ?_
    exact w_X8_moveByStrengths_70 C hf ko
  · replace hf := (if_pos hc).symm.trans hf
    refine xr_sub [1] (lv2 := [(0, mm_r v0)]) rfl ?_
    exact w_X8_moveByStrengths_38 C hf ko
noncomputable def f_X8_moveByStrengths (M : mm_M) (v0 : Option Nat) (v1 : Int32) (v2 : Int32) : Option (mm_M) := f_X8_moveByStrengths_0 M v0 v1 v2
theorem c_X8_moveByStrengths (l : Launch) (G : va_G) (cy : Nat → ClassId) {M : mm_M} {v0 : Option Nat} {v1 : Int32} {v2 : Int32} {M1 : mm_M} (hf : f_X8_moveByStrengths M v0 v1 v2 = some M1) : mm_Met l yX8_moveByStrengths cX8_moveByStrengths 5 none 2 46 0 0 G cy [mm_r v0, mm_i v1, mm_i v2] M none M1 :=
  mm_enter (by decide) (Nat.le_of_ble_eq_true rfl) (fun p e R s m args below meth c Q C hq => xr_sub [0, 1, 2] (lv2 := [(0, mm_r v0), (1, mm_i v1), (2, mm_i v2)]) rfl (w_X8_moveByStrengths_0 C hf hq))
noncomputable def f_X8_firstStrength_40 (M : mm_M) : Option (Int32) :=
  some 6000
set_option maxRecDepth 20000 in
theorem w_X8_firstStrength_40 {g : mm_c} (C : mm_ok g cX8_firstStrength "LessonCards$Memory" (some .int) "firstStrength" 1 0 0 0 0) {M : mm_M} {res : Int32} (hf : f_X8_firstStrength_40 M = some res) (ko : (fun z => mm_q g 0 0 (some (mm_i z)) M) res) : mm_X g 0 0 M 40 [] [] := by
  unfold f_X8_firstStrength_40 at hf
  refine xr_sipush 43 C (v := 6000) dX8_firstStrength_40 (by decide) rfl ?_
  obtain rfl := Option.some.inj hf
  exact xr_iret C ko ⟨(Nat.le_of_ble_eq_true rfl), (Nat.le_of_ble_eq_true rfl)⟩ dX8_firstStrength_43
noncomputable def f_X8_firstStrength_28 (M : mm_M) : Option (Int32) :=
  some 500
set_option maxRecDepth 20000 in
theorem w_X8_firstStrength_28 {g : mm_c} (C : mm_ok g cX8_firstStrength "LessonCards$Memory" (some .int) "firstStrength" 1 0 0 0 0) {M : mm_M} {res : Int32} (hf : f_X8_firstStrength_28 M = some res) (ko : (fun z => mm_q g 0 0 (some (mm_i z)) M) res) : mm_X g 0 0 M 28 [] [] := by
  unfold f_X8_firstStrength_28 at hf
  refine xr_sipush 31 C (v := 500) dX8_firstStrength_28 (by decide) rfl ?_
  obtain rfl := Option.some.inj hf
  exact xr_iret C ko ⟨(Nat.le_of_ble_eq_true rfl), (Nat.le_of_ble_eq_true rfl)⟩ dX8_firstStrength_31
noncomputable def f_X8_firstStrength_32 (M : mm_M) : Option (Int32) :=
  some 1000
set_option maxRecDepth 20000 in
theorem w_X8_firstStrength_32 {g : mm_c} (C : mm_ok g cX8_firstStrength "LessonCards$Memory" (some .int) "firstStrength" 1 0 0 0 0) {M : mm_M} {res : Int32} (hf : f_X8_firstStrength_32 M = some res) (ko : (fun z => mm_q g 0 0 (some (mm_i z)) M) res) : mm_X g 0 0 M 32 [] [] := by
  unfold f_X8_firstStrength_32 at hf
  refine xr_sipush 35 C (v := 1000) dX8_firstStrength_32 (by decide) rfl ?_
  obtain rfl := Option.some.inj hf
  exact xr_iret C ko ⟨(Nat.le_of_ble_eq_true rfl), (Nat.le_of_ble_eq_true rfl)⟩ dX8_firstStrength_35
noncomputable def f_X8_firstStrength_36 (M : mm_M) : Option (Int32) :=
  some 2500
set_option maxRecDepth 20000 in
theorem w_X8_firstStrength_36 {g : mm_c} (C : mm_ok g cX8_firstStrength "LessonCards$Memory" (some .int) "firstStrength" 1 0 0 0 0) {M : mm_M} {res : Int32} (hf : f_X8_firstStrength_36 M = some res) (ko : (fun z => mm_q g 0 0 (some (mm_i z)) M) res) : mm_X g 0 0 M 36 [] [] := by
  unfold f_X8_firstStrength_36 at hf
  refine xr_sipush 39 C (v := 2500) dX8_firstStrength_36 (by decide) rfl ?_
  obtain rfl := Option.some.inj hf
  exact xr_iret C ko ⟨(Nat.le_of_ble_eq_true rfl), (Nat.le_of_ble_eq_true rfl)⟩ dX8_firstStrength_39
noncomputable def f_X8_firstStrength_0 (M : mm_M) (v0 : Int32) : Option (Int32) :=
  if v0 = 0 then f_X8_firstStrength_28 M else if v0 = 1 then f_X8_firstStrength_32 M else if v0 = 2 then f_X8_firstStrength_36 M else f_X8_firstStrength_40 M
set_option maxRecDepth 20000 in
theorem w_X8_firstStrength_0 {g : mm_c} (C : mm_ok g cX8_firstStrength "LessonCards$Memory" (some .int) "firstStrength" 1 0 0 0 0) {M : mm_M} {v0 : Int32} {res : Int32} (hf : f_X8_firstStrength_0 M v0 = some res) (ko : (fun z => mm_q g 0 0 (some (mm_i z)) M) res) : mm_X g 0 0 M 0 [(0, mm_i v0)] [] := by
  unfold f_X8_firstStrength_0 at hf
  refine xr_iload_n 1 0 C dX8_firstStrength_0 rfl rfl rfl ?_
  rcases mm_if_e hf with ⟨hc0, hf⟩ | ⟨hc0, hf⟩
  · refine xr_tin 28 C dX8_firstStrength_1 (off := 27) hc0 (by decide) (by decide) (by decide) (by decide) ?_
    refine xr_sub [] (lv2 := []) rfl ?_
    exact w_X8_firstStrength_28 C hf ko
  ·
    rcases mm_if_e hf with ⟨hc1, hf⟩ | ⟨hc1, hf⟩
    · refine xr_tin 32 C dX8_firstStrength_1 (off := 31) hc1 (by decide) (by decide) (by decide) (by decide) ?_
      refine xr_sub [] (lv2 := []) rfl ?_
      exact w_X8_firstStrength_32 C hf ko
    ·
      rcases mm_if_e hf with ⟨hc2, hf⟩ | ⟨hc2, hf⟩
      · refine xr_tin 36 C dX8_firstStrength_1 (off := 35) hc2 (by decide) (by decide) (by decide) (by decide) ?_
        refine xr_sub [] (lv2 := []) rfl ?_
        exact w_X8_firstStrength_36 C hf ko
      ·
        refine xr_tout 40 C dX8_firstStrength_1 (mm_swd _ 2 (by decide) (fun k hk => by rcases (show k = 0 ∨ k = 1 ∨ k = 2 by omega) with rfl | rfl | rfl <;> assumption)) (by decide) ?_
        refine xr_sub [] (lv2 := []) rfl ?_
        exact w_X8_firstStrength_40 C hf ko
noncomputable def f_X8_firstStrength (M : mm_M) (v0 : Int32) : Option (Int32) := f_X8_firstStrength_0 M v0
theorem c_X8_firstStrength (l : Launch) (G : va_G) (cy : Nat → ClassId) {M : mm_M} {v0 : Int32} {r : Int32} (hf : f_X8_firstStrength M v0 = some r) : mm_Met l yX8_firstStrength cX8_firstStrength 1 (some .int) 0 0 0 0 G cy [mm_i v0] M (some (mm_i r)) M :=
  mm_enter (by decide) (Nat.le_of_ble_eq_true rfl) (fun p e R s m args below meth c Q C hq => xr_sub [0] (lv2 := [(0, mm_i v0)]) rfl (w_X8_firstStrength_0 C hf hq))
noncomputable def f_X8_moveByBoxes_29 (M : mm_M) (v0 : Option Nat) : Option (mm_M) :=
  (mm_fI M v0 9 2).bind fun x34 =>
  (mm_pI M v0 9 0 (1000 <<< (x34 &&& 31))).bind fun M38 =>
  some M38
set_option maxRecDepth 20000 in
theorem w_X8_moveByBoxes_29 {g : mm_c} (C : mm_ok g cX8_moveByBoxes "LessonCards$Memory" none "moveByBoxes" 2 1 21 0 0) {M : mm_M} {v0 : Option Nat} {res : mm_M} (hf : f_X8_moveByBoxes_29 M v0 = some res) (ko : (fun z => mm_q g 0 0 none z) res) : mm_X g 0 0 M 29 [(0, mm_r v0)] [] := by
  unfold f_X8_moveByBoxes_29 at hf
  refine xr_aload_n 30 0 C dX8_moveByBoxes_29 rfl rfl rfl ?_
  refine xr_sipush 33 C (v := 1000) dX8_moveByBoxes_30 (by decide) rfl ?_
  refine xr_aload_n 34 0 C dX8_moveByBoxes_33 rfl rfl rfl ?_
  obtain ⟨x34, h34, hf⟩ := mm_bd_e hf
  refine xr_getI 37 C cf_X8_26 rfl h34 dX8_moveByBoxes_34 rfl ?_
  refine xr_ishl 38 C dX8_moveByBoxes_37 rfl ?_
  obtain ⟨M38, h38, hf⟩ := mm_bd_e hf
  refine xr_putI 41 C cf_X8_23 (fun h => by cases h) h38 dX8_moveByBoxes_38 rfl ?_
  obtain rfl := Option.some.inj hf
  exact xr_vret C ko ⟨(Nat.le_of_ble_eq_true rfl), (Nat.le_of_ble_eq_true rfl)⟩ dX8_moveByBoxes_41
noncomputable def f_X8_moveByBoxes_4 (M : mm_M) (v0 : Option Nat) : Option (mm_M) :=
  (mm_pI M v0 9 2 0).bind fun M6 =>
  f_X8_moveByBoxes_29 M6 v0
set_option maxRecDepth 20000 in
theorem w_X8_moveByBoxes_4 {g : mm_c} (C : mm_ok g cX8_moveByBoxes "LessonCards$Memory" none "moveByBoxes" 2 1 21 0 0) {M : mm_M} {v0 : Option Nat} {res : mm_M} (hf : f_X8_moveByBoxes_4 M v0 = some res) (ko : (fun z => mm_q g 0 0 none z) res) : mm_X g 0 0 M 4 [(0, mm_r v0)] [] := by
  unfold f_X8_moveByBoxes_4 at hf
  refine xr_aload_n 5 0 C dX8_moveByBoxes_4 rfl rfl rfl ?_
  refine xr_iconst 6 C (v := 0) dX8_moveByBoxes_5 (by decide) rfl ?_
  obtain ⟨M6, h6, hf⟩ := mm_bd_e hf
  refine xr_putI 9 C cf_X8_26 (fun h => by cases h) h6 dX8_moveByBoxes_6 rfl ?_
  refine xr_goto 29 C dX8_moveByBoxes_9 (by decide) ?_
  exact w_X8_moveByBoxes_29 C hf ko
noncomputable def f_X8_moveByBoxes_12 (M : mm_M) (v0 : Option Nat) (v1 : Int32) : Option (mm_M) :=
  (mm_fI M v0 9 2).bind fun x16 =>
  (mm_pI M v0 9 2 (if ((x16 + v1) - 1) < 9 then ((x16 + v1) - 1) else 9)).bind fun M26 =>
  f_X8_moveByBoxes_29 M26 v0
set_option maxRecDepth 20000 in
theorem w_X8_moveByBoxes_12 {g : mm_c} (C : mm_ok g cX8_moveByBoxes "LessonCards$Memory" none "moveByBoxes" 2 1 21 0 0) {M : mm_M} {v0 : Option Nat} {v1 : Int32} {res : mm_M} (hf : f_X8_moveByBoxes_12 M v0 v1 = some res) (ko : (fun z => mm_q g 0 0 none z) res) : mm_X g 0 0 M 12 [(0, mm_r v0), (1, mm_i v1)] [] := by
  unfold f_X8_moveByBoxes_12 at hf
  refine xr_aload_n 13 0 C dX8_moveByBoxes_12 rfl rfl rfl ?_
  refine xr_bipush 15 C (v := 9) dX8_moveByBoxes_13 (by decide) rfl ?_
  refine xr_aload_n 16 0 C dX8_moveByBoxes_15 rfl rfl rfl ?_
  obtain ⟨x16, h16, hf⟩ := mm_bd_e hf
  refine xr_getI 19 C cf_X8_26 rfl h16 dX8_moveByBoxes_16 rfl ?_
  refine xr_iload_n 20 1 C dX8_moveByBoxes_19 rfl rfl rfl ?_
  refine xr_iadd 21 C dX8_moveByBoxes_20 rfl ?_
  refine xr_iconst 22 C (v := 1) dX8_moveByBoxes_21 (by decide) rfl ?_
  refine xr_isub 23 C dX8_moveByBoxes_22 rfl ?_
  refine xr_mmin 26 C wd_626 wd_353 wd_59 wd_354 ⟨Nat.le_of_ble_eq_true rfl, Nat.le_of_ble_eq_true rfl, (Nat.le_of_ble_eq_true rfl), (Nat.le_of_ble_eq_true rfl)⟩ (Nat.le_of_ble_eq_true rfl) dX8_moveByBoxes_23 rfl ?_
  obtain ⟨M26, h26, hf⟩ := mm_bd_e hf
  refine xr_putI 29 C cf_X8_26 (fun h => by cases h) h26 dX8_moveByBoxes_26 rfl ?_
  refine xr_sub [0] (lv2 := [(0, mm_r v0)]) rfl ?_
  exact w_X8_moveByBoxes_29 C hf ko
noncomputable def f_X8_moveByBoxes_0 (M : mm_M) (v0 : Option Nat) (v1 : Int32) : Option (mm_M) :=
  if v1 = 0 then f_X8_moveByBoxes_4 M v0 else f_X8_moveByBoxes_12 M v0 v1
set_option maxRecDepth 20000 in
theorem w_X8_moveByBoxes_0 {g : mm_c} (C : mm_ok g cX8_moveByBoxes "LessonCards$Memory" none "moveByBoxes" 2 1 21 0 0) {M : mm_M} {v0 : Option Nat} {v1 : Int32} {res : mm_M} (hf : f_X8_moveByBoxes_0 M v0 v1 = some res) (ko : (fun z => mm_q g 0 0 none z) res) : mm_X g 0 0 M 0 [(0, mm_r v0), (1, mm_i v1)] [] := by
  unfold f_X8_moveByBoxes_0 at hf
  refine xr_iload_n 1 1 C dX8_moveByBoxes_0 rfl rfl rfl ?_
  refine xr_if_ne 12 4 C dX8_moveByBoxes_1 (by decide) rfl (fun hc => ?_) (fun hc => ?_)
  · replace hf := (if_neg hc).symm.trans hf
    exact w_X8_moveByBoxes_12 C hf ko
  · replace hf := (if_pos hc).symm.trans hf
    refine xr_sub [0] (lv2 := [(0, mm_r v0)]) rfl ?_
    exact w_X8_moveByBoxes_4 C hf ko
noncomputable def f_X8_moveByBoxes (M : mm_M) (v0 : Option Nat) (v1 : Int32) : Option (mm_M) := f_X8_moveByBoxes_0 M v0 v1
theorem c_X8_moveByBoxes (l : Launch) (G : va_G) (cy : Nat → ClassId) {M : mm_M} {v0 : Option Nat} {v1 : Int32} {M1 : mm_M} (hf : f_X8_moveByBoxes M v0 v1 = some M1) : mm_Met l yX8_moveByBoxes cX8_moveByBoxes 2 none 1 21 0 0 G cy [mm_r v0, mm_i v1] M none M1 :=
  mm_enter (by decide) (Nat.le_of_ble_eq_true rfl) (fun p e R s m args below meth c Q C hq => xr_sub [0, 1] (lv2 := [(0, mm_r v0), (1, mm_i v1)]) rfl (w_X8_moveByBoxes_0 C hf hq))
noncomputable def f_X8_move_84 (M : mm_M) (v0 : Option Nat) (v4 : Int32) : Option (mm_M) :=
  (mm_pI M v0 9 3 v4).bind fun M87 =>
  some M87
set_option maxRecDepth 20000 in
theorem w_X8_move_84 {g : mm_c} (C : mm_ok g cX8_move "LessonCards$Memory" none "move" 6 3 70 0 0) {M : mm_M} {v0 : Option Nat} {v4 : Int32} {res : mm_M} (hf : f_X8_move_84 M v0 v4 = some res) (ko : (fun z => mm_q g 0 0 none z) res) : mm_X g 0 0 M 84 [(0, mm_r v0), (4, mm_i v4)] [] := by
  unfold f_X8_move_84 at hf
  refine xr_aload_n 85 0 C dX8_move_84 rfl rfl rfl ?_
  refine xr_iload 87 1 C dX8_move_85 rfl rfl ?_
  obtain ⟨M87, h87, hf⟩ := mm_bd_e hf
  refine xr_putI 90 C cf_X8_15 (fun h => by cases h) h87 dX8_move_87 rfl ?_
  obtain rfl := Option.some.inj hf
  exact xr_vret C ko ⟨(Nat.le_of_ble_eq_true rfl), (Nat.le_of_ble_eq_true rfl)⟩ dX8_move_90
noncomputable def f_X8_move_74 (M : mm_M) (v0 : Option Nat) (v4 : Int32) : Option (mm_M) :=
  (mm_fI M v0 9 4).bind fun x76 =>
  (mm_pI M v0 9 4 (x76 + 1)).bind fun M81 =>
  f_X8_move_84 M81 v0 v4
set_option maxRecDepth 20000 in
theorem w_X8_move_74 {g : mm_c} (C : mm_ok g cX8_move "LessonCards$Memory" none "move" 6 3 70 0 0) {M : mm_M} {v0 : Option Nat} {v4 : Int32} {res : mm_M} (hf : f_X8_move_74 M v0 v4 = some res) (ko : (fun z => mm_q g 0 0 none z) res) : mm_X g 0 0 M 74 [(0, mm_r v0), (4, mm_i v4)] [] := by
  unfold f_X8_move_74 at hf
  refine xr_aload_n 75 0 C dX8_move_74 rfl rfl rfl ?_
  refine xr_dup 76 C dX8_move_75 rfl rfl ?_
  obtain ⟨x76, h76, hf⟩ := mm_bd_e hf
  refine xr_getI 79 C cf_X8_29 rfl h76 dX8_move_76 rfl ?_
  refine xr_iconst 80 C (v := 1) dX8_move_79 (by decide) rfl ?_
  refine xr_iadd 81 C dX8_move_80 rfl ?_
  obtain ⟨M81, h81, hf⟩ := mm_bd_e hf
  refine xr_putI 84 C cf_X8_29 (fun h => by cases h) h81 dX8_move_81 rfl ?_
  exact w_X8_move_84 C hf ko
noncomputable def f_X8_move_70 (M : mm_M) (v0 : Option Nat) (v2 : Int32) (v4 : Int32) : Option (mm_M) :=
  if v2 = 0 then f_X8_move_74 M v0 v4 else f_X8_move_84 M v0 v4
set_option maxRecDepth 20000 in
theorem w_X8_move_70 {g : mm_c} (C : mm_ok g cX8_move "LessonCards$Memory" none "move" 6 3 70 0 0) {M : mm_M} {v0 : Option Nat} {v2 : Int32} {v4 : Int32} {res : mm_M} (hf : f_X8_move_70 M v0 v2 v4 = some res) (ko : (fun z => mm_q g 0 0 none z) res) : mm_X g 0 0 M 70 [(0, mm_r v0), (2, mm_i v2), (4, mm_i v4)] [] := by
  unfold f_X8_move_70 at hf
  refine xr_iload_n 71 1 C dX8_move_70 rfl rfl rfl ?_
  refine xr_if_ne 84 74 C dX8_move_71 (by decide) rfl (fun hc => ?_) (fun hc => ?_)
  · replace hf := (if_neg hc).symm.trans hf
    refine xr_sub [0, 2] (lv2 := [(0, mm_r v0), (4, mm_i v4)]) rfl ?_
    exact w_X8_move_84 C hf ko
  · replace hf := (if_pos hc).symm.trans hf
    refine xr_sub [0, 2] (lv2 := [(0, mm_r v0), (4, mm_i v4)]) rfl ?_
    exact w_X8_move_74 C hf ko
noncomputable def f_X8_move_4 (M : mm_M) (v0 : Option Nat) (v2 : Int32) (v4 : Int32) : Option (mm_M) :=
  (mm_rc M v0 9).bind fun u6 =>
  (f_X8_moveByBoxes M v0 v2).bind fun M6 =>
  f_X8_move_70 M6 v0 v2 v4
set_option maxRecDepth 20000 in
theorem w_X8_move_4 {g : mm_c} (C : mm_ok g cX8_move "LessonCards$Memory" none "move" 6 3 70 0 0) {M : mm_M} {v0 : Option Nat} {v2 : Int32} {v4 : Int32} {res : mm_M} (hf : f_X8_move_4 M v0 v2 v4 = some res) (ko : (fun z => mm_q g 0 0 none z) res) : mm_X g 0 0 M 4 [(0, mm_r v0), (2, mm_i v2), (4, mm_i v4)] [] := by
  unfold f_X8_move_4 at hf
  refine xr_aload_n 5 0 C dX8_move_4 rfl rfl rfl ?_
  refine xr_iload_n 6 1 C dX8_move_5 rfl rfl rfl ?_
  obtain ⟨u6, g6, hf⟩ := mm_bd_e hf
  obtain ⟨M6, h6, hf⟩ := mm_bd_e hf
  refine xr_callV 9 C [mm_i v2] cm_X8_75 (fun l G cy => c_X8_moveByBoxes l G cy h6) g6 rfl rfl ⟨⟨Nat.le_of_ble_eq_true rfl, Nat.le_of_ble_eq_true rfl⟩, (Nat.le_of_ble_eq_true rfl), (Nat.le_of_ble_eq_true rfl)⟩ (Nat.le_of_ble_eq_true rfl) dX8_move_6 rfl ?_
  refine xr_goto 70 C dX8_move_9 (by decide) ?_
  exact w_X8_move_70 C hf ko
noncomputable def f_X8_move_19 (M : mm_M) (v0 : Option Nat) (v2 : Int32) (v4 : Int32) : Option (mm_M) :=
  (f_X8_firstStrength M v2).bind fun x21 =>
  (mm_pI M v0 9 0 x21).bind fun M24 =>
  f_X8_move_70 M24 v0 v2 v4
set_option maxRecDepth 20000 in
theorem w_X8_move_19 {g : mm_c} (C : mm_ok g cX8_move "LessonCards$Memory" none "move" 6 3 70 0 0) {M : mm_M} {v0 : Option Nat} {v2 : Int32} {v4 : Int32} {res : mm_M} (hf : f_X8_move_19 M v0 v2 v4 = some res) (ko : (fun z => mm_q g 0 0 none z) res) : mm_X g 0 0 M 19 [(0, mm_r v0), (2, mm_i v2), (4, mm_i v4)] [] := by
  unfold f_X8_move_19 at hf
  refine xr_aload_n 20 0 C dX8_move_19 rfl rfl rfl ?_
  refine xr_iload_n 21 1 C dX8_move_20 rfl rfl rfl ?_
  obtain ⟨x21, h21, hf⟩ := mm_bd_e hf
  refine xr_callS 24 C [mm_i v2] cm_X8_79 (fun l G cy => c_X8_firstStrength l G cy h21) rfl rfl ⟨⟨Nat.le_of_ble_eq_true rfl, Nat.le_of_ble_eq_true rfl⟩, (Nat.le_of_ble_eq_true rfl), (Nat.le_of_ble_eq_true rfl)⟩ (Nat.le_of_ble_eq_true rfl) dX8_move_21 rfl ?_
  obtain ⟨M24, h24, hf⟩ := mm_bd_e hf
  refine xr_putI 27 C cf_X8_23 (fun h => by cases h) h24 dX8_move_24 rfl ?_
  refine xr_goto 70 C dX8_move_27 (by decide) ?_
  exact w_X8_move_70 C hf ko
noncomputable def f_X8_move_35 (M : mm_M) (v0 : Option Nat) (v2 : Int32) (v4 : Int32) (v5 : Option Nat) : Option (mm_M) :=
  (mm_rc M v0 9).bind fun u42 =>
  (f_X8_chanceOn M v0 v4 v5).bind fun x42 =>
  (mm_rc M v0 9).bind fun u45 =>
  (f_X8_moveByStrengths M v0 v2 x42).bind fun M45 =>
  f_X8_move_70 M45 v0 v2 v4
set_option maxRecDepth 20000 in
theorem w_X8_move_35 {g : mm_c} (C : mm_ok g cX8_move "LessonCards$Memory" none "move" 6 3 70 0 0) {M : mm_M} {v0 : Option Nat} {v2 : Int32} {v4 : Int32} {v5 : Option Nat} {res : mm_M} (hf : f_X8_move_35 M v0 v2 v4 v5 = some res) (ko : (fun z => mm_q g 0 0 none z) res) : mm_X g 0 0 M 35 [(0, mm_r v0), (2, mm_i v2), (4, mm_i v4), (5, mm_r v5)] [] := by
  unfold f_X8_move_35 at hf
  refine xr_aload_n 36 0 C dX8_move_35 rfl rfl rfl ?_
  refine xr_iload_n 37 1 C dX8_move_36 rfl rfl rfl ?_
  refine xr_aload_n 38 0 C dX8_move_37 rfl rfl rfl ?_
  refine xr_iload 40 2 C dX8_move_38 rfl rfl ?_
  refine xr_aload 42 3 C dX8_move_40 rfl rfl ?_
  obtain ⟨u42, g42, hf⟩ := mm_bd_e hf
  obtain ⟨x42, h42, hf⟩ := mm_bd_e hf
  refine xr_callV 45 C [mm_i v4, mm_r v5] cm_X8_49 (fun l G cy => c_X8_chanceOn l G cy h42) g42 rfl rfl ⟨⟨Nat.le_of_ble_eq_true rfl, Nat.le_of_ble_eq_true rfl⟩, (Nat.le_of_ble_eq_true rfl), (Nat.le_of_ble_eq_true rfl)⟩ (Nat.le_of_ble_eq_true rfl) dX8_move_42 rfl ?_
  obtain ⟨u45, g45, hf⟩ := mm_bd_e hf
  obtain ⟨M45, h45, hf⟩ := mm_bd_e hf
  refine xr_callV 48 C [mm_i v2, mm_i x42] cm_X8_82 (fun l G cy => c_X8_moveByStrengths l G cy h45) g45 rfl rfl ⟨⟨Nat.le_of_ble_eq_true rfl, Nat.le_of_ble_eq_true rfl⟩, (Nat.le_of_ble_eq_true rfl), (Nat.le_of_ble_eq_true rfl)⟩ (Nat.le_of_ble_eq_true rfl) dX8_move_45 rfl ?_
  refine xr_goto 70 C dX8_move_48 (by decide) ?_
  refine xr_sub [0, 1, 2] (lv2 := [(0, mm_r v0), (2, mm_i v2), (4, mm_i v4)]) rfl ?_
  exact w_X8_move_70 C hf ko
noncomputable def f_X8_move_51 (M : mm_M) (v0 : Option Nat) (v2 : Int32) (v3 : Int32) (v4 : Int32) : Option (mm_M) :=
  (mm_fI M v0 9 0).bind fun x53 =>
  (f_X8_boundedStrength M (((x53.toInt64) * (v3.toInt64)) / 1000)).bind fun x64 =>
  (mm_pI M v0 9 0 x64).bind fun M67 =>
  f_X8_move_70 M67 v0 v2 v4
set_option maxRecDepth 20000 in
theorem w_X8_move_51 {g : mm_c} (C : mm_ok g cX8_move "LessonCards$Memory" none "move" 6 3 70 0 0) {M : mm_M} {v0 : Option Nat} {v2 : Int32} {v3 : Int32} {v4 : Int32} {res : mm_M} (hf : f_X8_move_51 M v0 v2 v3 v4 = some res) (ko : (fun z => mm_q g 0 0 none z) res) : mm_X g 0 0 M 51 [(0, mm_r v0), (2, mm_i v2), (3, mm_i v3), (4, mm_i v4)] [] := by
  unfold f_X8_move_51 at hf
  refine xr_aload_n 52 0 C dX8_move_51 rfl rfl rfl ?_
  refine xr_aload_n 53 0 C dX8_move_52 rfl rfl rfl ?_
  obtain ⟨x53, h53, hf⟩ := mm_bd_e hf
  refine xr_getI 56 C cf_X8_23 rfl h53 dX8_move_53 rfl ?_
  refine xr_i2l 57 C dX8_move_56 rfl ?_
  refine xr_iload_n 58 2 C dX8_move_57 rfl rfl rfl ?_
  refine xr_i2l 59 C dX8_move_58 rfl ?_
  refine xr_lmul 60 C dX8_move_59 rfl ?_
  refine xr_ldc2 63 C wd_635 dX8_move_60 rfl ?_
  refine xr_ldiv 64 C dX8_move_63 (by decide) rfl ?_
  obtain ⟨x64, h64, hf⟩ := mm_bd_e hf
  refine xr_callS 67 C [mm_j (((x53.toInt64) * (v3.toInt64)) / 1000)] cm_X8_88 (fun l G cy => c_X8_boundedStrength l G cy h64) rfl rfl ⟨⟨Nat.le_of_ble_eq_true rfl, Nat.le_of_ble_eq_true rfl⟩, (Nat.le_of_ble_eq_true rfl), (Nat.le_of_ble_eq_true rfl)⟩ (Nat.le_of_ble_eq_true rfl) dX8_move_64 rfl ?_
  obtain ⟨M67, h67, hf⟩ := mm_bd_e hf
  refine xr_putI 70 C cf_X8_23 (fun h => by cases h) h67 dX8_move_67 rfl ?_
  refine xr_sub [0, 1, 3] (lv2 := [(0, mm_r v0), (2, mm_i v2), (4, mm_i v4)]) rfl ?_
  exact w_X8_move_70 C hf ko
noncomputable def f_X8_move_30 (M : mm_M) (v0 : Option Nat) (v1 : Int32) (v2 : Int32) (v3 : Int32) (v4 : Int32) (v5 : Option Nat) : Option (mm_M) :=
  if v1 = 1 then f_X8_move_35 M v0 v2 v4 v5 else f_X8_move_51 M v0 v2 v3 v4
set_option maxRecDepth 20000 in
theorem w_X8_move_30 {g : mm_c} (C : mm_ok g cX8_move "LessonCards$Memory" none "move" 6 3 70 0 0) {M : mm_M} {v0 : Option Nat} {v1 : Int32} {v2 : Int32} {v3 : Int32} {v4 : Int32} {v5 : Option Nat} {res : mm_M} (hf : f_X8_move_30 M v0 v1 v2 v3 v4 v5 = some res) (ko : (fun z => mm_q g 0 0 none z) res) : mm_X g 0 0 M 30 [(0, mm_r v0), (1, mm_i v1), (2, mm_i v2), (3, mm_i v3), (4, mm_i v4), (5, mm_r v5)] [] := by
  unfold f_X8_move_30 at hf
  refine xr_iload_n 31 1 C dX8_move_30 rfl rfl rfl ?_
  refine xr_iconst 32 C (v := 1) dX8_move_31 (by decide) rfl ?_
  refine xr_icmp_ne 51 35 C dX8_move_32 (by decide) rfl (fun hc => ?_) (fun hc => ?_)
  · replace hf := (if_neg hc).symm.trans hf
    refine xr_sub [0, 2, 3, 4] (lv2 := [(0, mm_r v0), (2, mm_i v2), (3, mm_i v3), (4, mm_i v4)]) rfl ?_
    exact w_X8_move_51 C hf ko
  · replace hf := (if_pos hc).symm.trans hf
    refine xr_sub [0, 2, 4, 5] (lv2 := [(0, mm_r v0), (2, mm_i v2), (4, mm_i v4), (5, mm_r v5)]) rfl ?_
    exact w_X8_move_35 C hf ko
noncomputable def f_X8_move_12 (M : mm_M) (v0 : Option Nat) (v1 : Int32) (v2 : Int32) (v3 : Int32) (v4 : Int32) (v5 : Option Nat) : Option (mm_M) :=
  (mm_rc M v0 9).bind fun u13 =>
  (f_X8_isFresh M v0).bind fun x13 =>
  if x13 = 0 then f_X8_move_30 M v0 v1 v2 v3 v4 v5 else f_X8_move_19 M v0 v2 v4
set_option maxRecDepth 20000 in
theorem w_X8_move_12 {g : mm_c} (C : mm_ok g cX8_move "LessonCards$Memory" none "move" 6 3 70 0 0) {M : mm_M} {v0 : Option Nat} {v1 : Int32} {v2 : Int32} {v3 : Int32} {v4 : Int32} {v5 : Option Nat} {res : mm_M} (hf : f_X8_move_12 M v0 v1 v2 v3 v4 v5 = some res) (ko : (fun z => mm_q g 0 0 none z) res) : mm_X g 0 0 M 12 [(0, mm_r v0), (1, mm_i v1), (2, mm_i v2), (3, mm_i v3), (4, mm_i v4), (5, mm_r v5)] [] := by
  unfold f_X8_move_12 at hf
  refine xr_aload_n 13 0 C dX8_move_12 rfl rfl rfl ?_
  obtain ⟨u13, g13, hf⟩ := mm_bd_e hf
  obtain ⟨x13, h13, hf⟩ := mm_bd_e hf
  refine xr_callV 16 C [] cm_X8_57 (fun l G cy => c_X8_isFresh l G cy h13) g13 rfl rfl ⟨⟨Nat.le_of_ble_eq_true rfl, Nat.le_of_ble_eq_true rfl⟩, (Nat.le_of_ble_eq_true rfl), (Nat.le_of_ble_eq_true rfl)⟩ (Nat.le_of_ble_eq_true rfl) dX8_move_13 rfl ?_
  refine xr_if_eq 30 19 C dX8_move_16 (by decide) rfl (fun hc => ?_) (fun hc => ?_)
  · replace hf := (if_pos hc).symm.trans hf
    exact w_X8_move_30 C hf ko
  · replace hf := (if_neg hc).symm.trans hf
    refine xr_sub [0, 2, 4] (lv2 := [(0, mm_r v0), (2, mm_i v2), (4, mm_i v4)]) rfl ?_
    exact w_X8_move_19 C hf ko
noncomputable def f_X8_move_0 (M : mm_M) (v0 : Option Nat) (v1 : Int32) (v2 : Int32) (v3 : Int32) (v4 : Int32) (v5 : Option Nat) : Option (mm_M) :=
  if v1 = 0 then f_X8_move_4 M v0 v2 v4 else f_X8_move_12 M v0 v1 v2 v3 v4 v5
set_option maxRecDepth 20000 in
theorem w_X8_move_0 {g : mm_c} (C : mm_ok g cX8_move "LessonCards$Memory" none "move" 6 3 70 0 0) {M : mm_M} {v0 : Option Nat} {v1 : Int32} {v2 : Int32} {v3 : Int32} {v4 : Int32} {v5 : Option Nat} {res : mm_M} (hf : f_X8_move_0 M v0 v1 v2 v3 v4 v5 = some res) (ko : (fun z => mm_q g 0 0 none z) res) : mm_X g 0 0 M 0 [(0, mm_r v0), (1, mm_i v1), (2, mm_i v2), (3, mm_i v3), (4, mm_i v4), (5, mm_r v5)] [] := by
  unfold f_X8_move_0 at hf
  refine xr_iload_n 1 1 C dX8_move_0 rfl rfl rfl ?_
  refine xr_if_ne 12 4 C dX8_move_1 (by decide) rfl (fun hc => ?_) (fun hc => ?_)
  · replace hf := (if_neg hc).symm.trans hf
    exact w_X8_move_12 C hf ko
  · replace hf := (if_pos hc).symm.trans hf
    refine xr_sub [0, 2, 4] (lv2 := [(0, mm_r v0), (2, mm_i v2), (4, mm_i v4)]) rfl ?_
    exact w_X8_move_4 C hf ko
noncomputable def f_X8_move (M : mm_M) (v0 : Option Nat) (v1 : Int32) (v2 : Int32) (v3 : Int32) (v4 : Int32) (v5 : Option Nat) : Option (mm_M) := f_X8_move_0 M v0 v1 v2 v3 v4 v5
theorem c_X8_move (l : Launch) (G : va_G) (cy : Nat → ClassId) {M : mm_M} {v0 : Option Nat} {v1 : Int32} {v2 : Int32} {v3 : Int32} {v4 : Int32} {v5 : Option Nat} {M1 : mm_M} (hf : f_X8_move M v0 v1 v2 v3 v4 v5 = some M1) : mm_Met l yX8_move cX8_move 6 none 3 70 0 0 G cy [mm_r v0, mm_i v1, mm_i v2, mm_i v3, mm_i v4, mm_r v5] M none M1 :=
  mm_enter (by decide) (Nat.le_of_ble_eq_true rfl) (fun p e R s m args below meth c Q C hq => xr_sub [0, 1, 2, 3, 4, 5] (lv2 := [(0, mm_r v0), (1, mm_i v1), (2, mm_i v2), (3, mm_i v3), (4, mm_i v4), (5, mm_r v5)]) rfl (w_X8_move_0 C hf hq))
def h_X9_init_128 (g : mm_c) (v0 : Nat) : (Nat × mm_M × Int32) → Prop := fun x => mm_X g (18 + 3 * x.1) (1846 + 127 * x.1) x.2.1 128 [(0, mm_r (some v0)), (1, mm_i x.2.2)] []
noncomputable def f_X9_init_137 (M : mm_M) (c128 : Nat) (v0 : Nat) (v1 : Int32) : Option ((Nat × mm_M × Int32) ⊕ (mm_M)) :=
  (mm_fR M (some v0) 10 2).bind fun x138 =>
  mm_gd (c128 < 4) <|
  mm_le (mm_nw M (7, 0)) fun M142 =>
  (f_X6_init M142 (mm_n M)).bind fun M146 =>
  (mm_tR M146 x138 15 v1 (some (mm_n M))).bind fun M149 =>
  some (.inl ((c128 + 1), M149, (v1 + 1)))
set_option maxRecDepth 20000 in
theorem w_X9_init_137 {g : mm_c} (C : mm_ok g cX9_init "LessonCards" none "<init>" 2 5 100 30 2354) {M : mm_M} {c128 : Nat} {v0 : Nat} {v1 : Int32} {res : (Nat × mm_M × Int32) ⊕ (mm_M)} (hf : f_X9_init_137 M c128 v0 v1 = some res) (ko : (mm_o (h_X9_init_128 g v0) (fun z => mm_q g 30 2354 none z)) res) : mm_X g (18 + 3 * c128) (1846 + 127 * c128) M 137 [(0, mm_r (some v0)), (1, mm_i v1)] [] := by
  unfold f_X9_init_137 at hf
  refine xr_aload_n 138 0 C dX9_init_137 rfl rfl rfl ?_
  obtain ⟨x138, h138, hf⟩ := mm_bd_e hf
  refine xr_getR 141 C cf_X9_25 rfl h138 dX9_init_138 rfl ?_
  refine xr_iload_n 142 1 C dX9_init_141 rfl rfl rfl ?_
  obtain ⟨hc128, hf⟩ := mm_gd_e hf
  obtain ⟨M142, h142, hf⟩ := mm_le_e hf
  refine xr_new 145 C (ci := 7) (Cn := RX6) (T := TX6) (N := 4) (ty := tyX6) rfl (by decide) in_X6 tyX6_ok nf_X6 wd_132 wd_134 wd_52 dX9_init_142 ⟨(by omega), (by omega)⟩ rfl h142 ?_
  refine xr_dup 146 C dX9_init_145 rfl rfl ?_
  obtain ⟨M146, h146, hf⟩ := mm_bd_e hf
  refine xr_callI 149 C [] cm_X9_29 (fun l G cy => c_X6_init l G cy h146) rfl rfl ⟨⟨Nat.le_of_ble_eq_true rfl, Nat.le_of_ble_eq_true rfl⟩, (by omega), (by omega)⟩ (Nat.le_of_ble_eq_true rfl) dX9_init_146 rfl ?_
  obtain ⟨M149, h149, hf⟩ := mm_bd_e hf
  refine xr_astR 150 C 15 (by decide) h149 dX9_init_149 rfl ?_
  refine xr_iinc 153 1 C dX9_init_150 rfl (by decide) (v := 1) (by decide) rfl [(1, mm_i (v1 + 1)), (0, mm_r (some v0))] rfl ?_
  refine xr_goto 128 C dX9_init_153 (by decide) ?_
  refine xr_sub [1, 0] (lv2 := [(0, mm_r (some v0)), (1, mm_i (v1 + 1))]) rfl ?_
  obtain rfl := Option.some.inj hf
  exact xr_widen (by omega) (by omega) ko
noncomputable def f_X9_init_156 (M : mm_M) : Option (mm_M) :=
  some M
set_option maxRecDepth 20000 in
theorem w_X9_init_156 {g : mm_c} (C : mm_ok g cX9_init "LessonCards" none "<init>" 2 5 100 30 2354) {M : mm_M} {res : mm_M} (hf : f_X9_init_156 M = some res) (ko : (fun z => mm_q g 30 2354 none z) res) : mm_X g 30 2354 M 156 [] [] := by
  unfold f_X9_init_156 at hf
  obtain rfl := Option.some.inj hf
  exact xr_vret C ko ⟨(Nat.le_of_ble_eq_true rfl), (Nat.le_of_ble_eq_true rfl)⟩ dX9_init_156
noncomputable def f_X9_init_128 (M : mm_M) (c128 : Nat) (v0 : Nat) (v1 : Int32) : Option ((Nat × mm_M × Int32) ⊕ (mm_M)) :=
  (mm_fR M (some v0) 10 2).bind fun x130 =>
  (mm_ln M x130).bind fun x133 =>
  if x133 ≤ v1 then mm_gd (c128 ≤ 4) (mm_mp (f_X9_init_156 M)) else f_X9_init_137 M c128 v0 v1
set_option maxRecDepth 20000 in
theorem w_X9_init_128 {g : mm_c} (C : mm_ok g cX9_init "LessonCards" none "<init>" 2 5 100 30 2354) {M : mm_M} {c128 : Nat} {v0 : Nat} {v1 : Int32} {res : (Nat × mm_M × Int32) ⊕ (mm_M)} (hf : f_X9_init_128 M c128 v0 v1 = some res) (ko : (mm_o (h_X9_init_128 g v0) (fun z => mm_q g 30 2354 none z)) res) : mm_X g (18 + 3 * c128) (1846 + 127 * c128) M 128 [(0, mm_r (some v0)), (1, mm_i v1)] [] := by
  unfold f_X9_init_128 at hf
  refine xr_iload_n 129 1 C dX9_init_128 rfl rfl rfl ?_
  refine xr_aload_n 130 0 C dX9_init_129 rfl rfl rfl ?_
  obtain ⟨x130, h130, hf⟩ := mm_bd_e hf
  refine xr_getR 133 C cf_X9_25 rfl h130 dX9_init_130 rfl ?_
  obtain ⟨x133, h133, hf⟩ := mm_bd_e hf
  refine xr_alen 134 C h133 dX9_init_133 rfl ?_
  refine xr_icmp_ge 156 137 C dX9_init_134 (by decide) rfl (fun hc => ?_) (fun hc => ?_)
  · replace hf := (if_pos hc).symm.trans hf
    refine xr_sub [] (lv2 := []) rfl ?_
    obtain ⟨hcx, hf⟩ := mm_gd_e hf
    obtain ⟨z, hf2, rfl⟩ := mm_mp_e hf
    clear hf
    have hf := hf2
    clear hf2
    refine xr_widen (k := 30) (n := 2354) (by omega) (by omega) ?_
    exact w_X9_init_156 C hf ko
  · replace hf := (if_neg hc).symm.trans hf
    exact w_X9_init_137 C hf ko
noncomputable def f_X9_init_128w (M : mm_M) (v0 : Nat) (v1 : Int32) : Option (mm_M) := mm_w (fun x => f_X9_init_128 x.2.1 x.1 v0 x.2.2) (0, M, v1)
theorem l_X9_init_128 {g : mm_c} (C : mm_ok g cX9_init "LessonCards" none "<init>" 2 5 100 30 2354) {M : mm_M} {v0 : Nat} {v1 : Int32} {res : mm_M} (hf : f_X9_init_128w M v0 v1 = some res) (ko : (fun z => mm_q g 30 2354 none z) res) : mm_X g 18 1846 M 128 [(0, mm_r (some v0)), (1, mm_i v1)] [] :=
  xr_widen (k := 18 + 3 * 0) (n := 1846 + 127 * 0) (by omega) (by omega) <| mm_w_W (body := fun x => f_X9_init_128 x.2.1 x.1 v0 x.2.2) (Wh := h_X9_init_128 g v0) (ok := (fun z => mm_q g 30 2354 none z)) (x := (0, M, v1)) (fun x r hb ho => w_X9_init_128 C hb ho) hf ko
noncomputable def f_X9_init_0 (M : mm_M) (v0 : Nat) : Option (mm_M) :=
  mm_le (mm_nw M (2, 0)) fun M5 =>
  (f_X1_init M5 (mm_n M)).bind fun M9 =>
  (mm_pR M9 (some v0) 10 0 (some (mm_n M))).bind fun M12 =>
  mm_le (mm_nw M12 (3, 0)) fun M16 =>
  (f_X2_init M16 (mm_n M12)).bind fun M20 =>
  (mm_pR M20 (some v0) 10 1 (some (mm_n M12))).bind fun M23 =>
  (mm_na M23 15 4 4).bind fun M28 =>
  (mm_pR M28 (some v0) 10 2 (some (mm_n M23))).bind fun M31 =>
  mm_le (mm_nw M31 (7, 0)) fun M35 =>
  (f_X6_init M35 (mm_n M31)).bind fun M39 =>
  (mm_pR M39 (some v0) 10 3 (some (mm_n M31))).bind fun M42 =>
  mm_le (mm_nw M42 (0, 0)) fun M46 =>
  (f_Jx4a65c_init_da8c8 M46 (mm_n M42)).bind fun M50 =>
  (mm_pR M50 (some v0) 10 4 (some (mm_n M42))).bind fun M53 =>
  mm_le (mm_nw M53 (5, 0)) fun M57 =>
  (f_X4_init M57 (mm_n M53)).bind fun M61 =>
  (mm_pR M61 (some v0) 10 5 (some (mm_n M53))).bind fun M64 =>
  mm_le (mm_nw M64 (8, 0)) fun M68 =>
  (f_X7_init M68 (mm_n M64)).bind fun M72 =>
  (mm_pR M72 (some v0) 10 6 (some (mm_n M64))).bind fun M75 =>
  (mm_na M75 12 4 4).bind fun M80 =>
  (mm_tI M80 (some (mm_n M75)) 0 200).bind fun M87 =>
  (mm_tI M87 (some (mm_n M75)) 1 1000).bind fun M93 =>
  (mm_tI M93 (some (mm_n M75)) 2 2000).bind fun M99 =>
  (mm_tI M99 (some (mm_n M75)) 3 3000).bind fun M105 =>
  (mm_pR M105 (some v0) 10 7 (some (mm_n M75))).bind fun M106 =>
  (mm_pI M106 (some v0) 10 8 0).bind fun M111 =>
  (mm_pI M111 (some v0) 10 9 60).bind fun M117 =>
  (mm_pI M117 (some v0) 10 10 10).bind fun M123 =>
  f_X9_init_128w M123 v0 0
set_option maxRecDepth 20000 in
theorem w_X9_init_0 {g : mm_c} (C : mm_ok g cX9_init "LessonCards" none "<init>" 2 5 100 30 2354) {M : mm_M} {v0 : Nat} {res : mm_M} (hf : f_X9_init_0 M v0 = some res) (ko : (fun z => mm_q g 30 2354 none z) res) : mm_X g 0 0 M 0 [(0, mm_r (some v0))] [] := by
  unfold f_X9_init_0 at hf
  refine xr_aload_n 1 0 C dX9_init_0 rfl rfl rfl ?_
  refine xr_oinit 4 C wd_71 wd_72 wd_73 ⟨Nat.le_of_ble_eq_true rfl, Nat.le_of_ble_eq_true rfl⟩ (Nat.le_of_ble_eq_true rfl) dX9_init_1 rfl ?_
  refine xr_aload_n 5 0 C dX9_init_4 rfl rfl rfl ?_
  obtain ⟨M5, h5, hf⟩ := mm_le_e hf
  refine xr_new 8 C (ci := 2) (Cn := RX1) (T := TX1) (N := 2) (ty := tyX1) rfl (by decide) in_X1 tyX1_ok nf_X1 wd_74 wd_75 wd_47 dX9_init_5 ⟨(Nat.le_of_ble_eq_true rfl), (Nat.le_of_ble_eq_true rfl)⟩ rfl h5 ?_
  refine xr_dup 9 C dX9_init_8 rfl rfl ?_
  obtain ⟨M9, h9, hf⟩ := mm_bd_e hf
  refine xr_callI 12 C [] cm_X9_11 (fun l G cy => c_X1_init l G cy h9) rfl rfl ⟨⟨Nat.le_of_ble_eq_true rfl, Nat.le_of_ble_eq_true rfl⟩, (Nat.le_of_ble_eq_true rfl), (Nat.le_of_ble_eq_true rfl)⟩ (Nat.le_of_ble_eq_true rfl) dX9_init_9 rfl ?_
  obtain ⟨M12, h12, hf⟩ := mm_bd_e hf
  refine xr_putR 15 C cf_X9_12 (fun _ => ⟨rfl, co_10_0⟩) h12 dX9_init_12 rfl ?_
  refine xr_aload_n 16 0 C dX9_init_15 rfl rfl rfl ?_
  obtain ⟨M16, h16, hf⟩ := mm_le_e hf
  refine xr_new 19 C (ci := 3) (Cn := RX2) (T := TX2) (N := 3) (ty := tyX2) rfl (by decide) in_X2 tyX2_ok nf_X2 wd_89 wd_90 wd_48 dX9_init_16 ⟨(Nat.le_of_ble_eq_true rfl), (Nat.le_of_ble_eq_true rfl)⟩ rfl h16 ?_
  refine xr_dup 20 C dX9_init_19 rfl rfl ?_
  obtain ⟨M20, h20, hf⟩ := mm_bd_e hf
  refine xr_callI 23 C [] cm_X9_18 (fun l G cy => c_X2_init l G cy h20) rfl rfl ⟨⟨Nat.le_of_ble_eq_true rfl, Nat.le_of_ble_eq_true rfl⟩, (Nat.le_of_ble_eq_true rfl), (Nat.le_of_ble_eq_true rfl)⟩ (Nat.le_of_ble_eq_true rfl) dX9_init_20 rfl ?_
  obtain ⟨M23, h23, hf⟩ := mm_bd_e hf
  refine xr_putR 26 C cf_X9_19 (fun _ => ⟨rfl, co_10_1⟩) h23 dX9_init_23 rfl ?_
  refine xr_aload_n 27 0 C dX9_init_26 rfl rfl rfl ?_
  refine xr_iconst 28 C (v := 4) dX9_init_27 (by decide) rfl ?_
  obtain ⟨M28, h28, hf⟩ := mm_bd_e hf
  refine xr_newq 31 C (lim := 4) (by decide) (by decide) wd_132 h28 dX9_init_28 ⟨(Nat.le_of_ble_eq_true rfl), (Nat.le_of_ble_eq_true rfl)⟩ rfl ?_
  obtain ⟨M31, h31, hf⟩ := mm_bd_e hf
  refine xr_putR 34 C cf_X9_25 (fun _ => ⟨rfl, co_10_2⟩) h31 dX9_init_31 rfl ?_
  refine xr_aload_n 35 0 C dX9_init_34 rfl rfl rfl ?_
  obtain ⟨M35, h35, hf⟩ := mm_le_e hf
  refine xr_new 38 C (ci := 7) (Cn := RX6) (T := TX6) (N := 4) (ty := tyX6) rfl (by decide) in_X6 tyX6_ok nf_X6 wd_132 wd_134 wd_52 dX9_init_35 ⟨(Nat.le_of_ble_eq_true rfl), (Nat.le_of_ble_eq_true rfl)⟩ rfl h35 ?_
  refine xr_dup 39 C dX9_init_38 rfl rfl ?_
  obtain ⟨M39, h39, hf⟩ := mm_bd_e hf
  refine xr_callI 42 C [] cm_X9_29 (fun l G cy => c_X6_init l G cy h39) rfl rfl ⟨⟨Nat.le_of_ble_eq_true rfl, Nat.le_of_ble_eq_true rfl⟩, (Nat.le_of_ble_eq_true rfl), (Nat.le_of_ble_eq_true rfl)⟩ (Nat.le_of_ble_eq_true rfl) dX9_init_39 rfl ?_
  obtain ⟨M42, h42, hf⟩ := mm_bd_e hf
  refine xr_putR 45 C cf_X9_30 (fun _ => ⟨rfl, co_10_3⟩) h42 dX9_init_42 rfl ?_
  refine xr_aload_n 46 0 C dX9_init_45 rfl rfl rfl ?_
  obtain ⟨M46, h46, hf⟩ := mm_le_e hf
  refine xr_new 49 C (ci := 0) (Cn := RJx4a65c) (T := TJx4a65c) (N := 3) (ty := tyJx4a65c) rfl (by decide) in_Jx4a65c tyJx4a65c_ok nf_Jx4a65c wd_157 wd_96 wd_51 dX9_init_46 ⟨(Nat.le_of_ble_eq_true rfl), (Nat.le_of_ble_eq_true rfl)⟩ rfl h46 ?_
  refine xr_dup 50 C dX9_init_49 rfl rfl ?_
  obtain ⟨M50, h50, hf⟩ := mm_bd_e hf
  refine xr_callI 53 C [] cm_X9_36 (fun l G cy => c_Jx4a65c_init_da8c8 l G cy h50) rfl rfl ⟨⟨Nat.le_of_ble_eq_true rfl, Nat.le_of_ble_eq_true rfl⟩, (Nat.le_of_ble_eq_true rfl), (Nat.le_of_ble_eq_true rfl)⟩ (Nat.le_of_ble_eq_true rfl) dX9_init_50 rfl ?_
  obtain ⟨M53, h53, hf⟩ := mm_bd_e hf
  refine xr_putR 56 C cf_X9_37 (fun _ => ⟨rfl, co_10_4⟩) h53 dX9_init_53 rfl ?_
  refine xr_aload_n 57 0 C dX9_init_56 rfl rfl rfl ?_
  obtain ⟨M57, h57, hf⟩ := mm_le_e hf
  refine xr_new 60 C (ci := 5) (Cn := RX4) (T := TX4) (N := 5) (ty := tyX4) rfl (by decide) in_X4 tyX4_ok nf_X4 wd_159 wd_160 wd_53 dX9_init_57 ⟨(Nat.le_of_ble_eq_true rfl), (Nat.le_of_ble_eq_true rfl)⟩ rfl h57 ?_
  refine xr_dup 61 C dX9_init_60 rfl rfl ?_
  obtain ⟨M61, h61, hf⟩ := mm_bd_e hf
  refine xr_callI 64 C [] cm_X9_43 (fun l G cy => c_X4_init l G cy h61) rfl rfl ⟨⟨Nat.le_of_ble_eq_true rfl, Nat.le_of_ble_eq_true rfl⟩, (Nat.le_of_ble_eq_true rfl), (Nat.le_of_ble_eq_true rfl)⟩ (Nat.le_of_ble_eq_true rfl) dX9_init_61 rfl ?_
  obtain ⟨M64, h64, hf⟩ := mm_bd_e hf
  refine xr_putR 67 C cf_X9_44 (fun _ => ⟨rfl, co_10_5⟩) h64 dX9_init_64 rfl ?_
  refine xr_aload_n 68 0 C dX9_init_67 rfl rfl rfl ?_
  obtain ⟨M68, h68, hf⟩ := mm_le_e hf
  refine xr_new 71 C (ci := 8) (Cn := RX7) (T := TX7) (N := 6) (ty := tyX7) rfl (by decide) in_X7 tyX7_ok nf_X7 wd_181 wd_182 wd_54 dX9_init_68 ⟨(Nat.le_of_ble_eq_true rfl), (Nat.le_of_ble_eq_true rfl)⟩ rfl h68 ?_
  refine xr_dup 72 C dX9_init_71 rfl rfl ?_
  obtain ⟨M72, h72, hf⟩ := mm_bd_e hf
  refine xr_callI 75 C [] cm_X9_50 (fun l G cy => c_X7_init l G cy h72) rfl rfl ⟨⟨Nat.le_of_ble_eq_true rfl, Nat.le_of_ble_eq_true rfl⟩, (Nat.le_of_ble_eq_true rfl), (Nat.le_of_ble_eq_true rfl)⟩ (Nat.le_of_ble_eq_true rfl) dX9_init_72 rfl ?_
  obtain ⟨M75, h75, hf⟩ := mm_bd_e hf
  refine xr_putR 78 C cf_X9_51 (fun _ => ⟨rfl, co_10_6⟩) h75 dX9_init_75 rfl ?_
  refine xr_aload_n 79 0 C dX9_init_78 rfl rfl rfl ?_
  refine xr_iconst 80 C (v := 4) dX9_init_79 (by decide) rfl ?_
  obtain ⟨M80, h80, hf⟩ := mm_bd_e hf
  refine xr_newa 82 C (at_ := .int) (lim := 4) (by decide) (by decide) wd_88 h80 dX9_init_80 ⟨(Nat.le_of_ble_eq_true rfl), (Nat.le_of_ble_eq_true rfl)⟩ rfl ?_
  refine xr_dup 83 C dX9_init_82 rfl rfl ?_
  refine xr_iconst 84 C (v := 0) dX9_init_83 (by decide) rfl ?_
  refine xr_sipush 87 C (v := 200) dX9_init_84 (by decide) rfl ?_
  obtain ⟨M87, h87, hf⟩ := mm_bd_e hf
  refine xr_astI 88 C h87 dX9_init_87 rfl ?_
  refine xr_dup 89 C dX9_init_88 rfl rfl ?_
  refine xr_iconst 90 C (v := 1) dX9_init_89 (by decide) rfl ?_
  refine xr_sipush 93 C (v := 1000) dX9_init_90 (by decide) rfl ?_
  obtain ⟨M93, h93, hf⟩ := mm_bd_e hf
  refine xr_astI 94 C h93 dX9_init_93 rfl ?_
  refine xr_dup 95 C dX9_init_94 rfl rfl ?_
  refine xr_iconst 96 C (v := 2) dX9_init_95 (by decide) rfl ?_
  refine xr_sipush 99 C (v := 2000) dX9_init_96 (by decide) rfl ?_
  obtain ⟨M99, h99, hf⟩ := mm_bd_e hf
  refine xr_astI 100 C h99 dX9_init_99 rfl ?_
  refine xr_dup 101 C dX9_init_100 rfl rfl ?_
  refine xr_iconst 102 C (v := 3) dX9_init_101 (by decide) rfl ?_
  refine xr_sipush 105 C (v := 3000) dX9_init_102 (by decide) rfl ?_
  obtain ⟨M105, h105, hf⟩ := mm_bd_e hf
  refine xr_astI 106 C h105 dX9_init_105 rfl ?_
  obtain ⟨M106, h106, hf⟩ := mm_bd_e hf
  refine xr_putR 109 C cf_X9_55 (fun _ => ⟨rfl, co_10_7⟩) h106 dX9_init_106 rfl ?_
  refine xr_aload_n 110 0 C dX9_init_109 rfl rfl rfl ?_
  refine xr_iconst 111 C (v := 0) dX9_init_110 (by decide) rfl ?_
  obtain ⟨M111, h111, hf⟩ := mm_bd_e hf
  refine xr_putI 114 C cf_X9_59 (fun h => by cases h) h111 dX9_init_111 rfl ?_
  refine xr_aload_n 115 0 C dX9_init_114 rfl rfl rfl ?_
  refine xr_bipush 117 C (v := 60) dX9_init_115 (by decide) rfl ?_
  obtain ⟨M117, h117, hf⟩ := mm_bd_e hf
  refine xr_putI 120 C cf_X9_63 (fun h => by cases h) h117 dX9_init_117 rfl ?_
  refine xr_aload_n 121 0 C dX9_init_120 rfl rfl rfl ?_
  refine xr_bipush 123 C (v := 10) dX9_init_121 (by decide) rfl ?_
  obtain ⟨M123, h123, hf⟩ := mm_bd_e hf
  refine xr_putI 126 C cf_X9_66 (fun h => by cases h) h123 dX9_init_123 rfl ?_
  refine xr_iconst 127 C (v := 0) dX9_init_126 (by decide) rfl ?_
  refine xr_istore_n 128 C dX9_init_127 rfl (by decide) rfl [(1, mm_i 0), (0, mm_r (some v0))] rfl ?_
  refine xr_sub [1, 0] (lv2 := [(0, mm_r (some v0)), (1, mm_i 0)]) rfl ?_
  exact l_X9_init_128 C hf ko
noncomputable def f_X9_init (M : mm_M) (v0 : Nat) : Option (mm_M) := f_X9_init_0 M v0
theorem c_X9_init (l : Launch) (G : va_G) (cy : Nat → ClassId) {M : mm_M} {v0 : Nat} {M1 : mm_M} (hf : f_X9_init M v0 = some M1) : mm_Met l yX9_init cX9_init 2 none 5 100 30 2354 G cy [mm_r (some v0)] M none M1 :=
  mm_enter (by decide) (Nat.le_of_ble_eq_true rfl) (fun p e R s m args below meth c Q C hq => xr_sub [0] (lv2 := [(0, mm_r (some v0))]) rfl (w_X9_init_0 C hf hq))
def h_X9_card_29 (g : mm_c) (v0 : Option Nat) (v1 : Int32) : (Nat × mm_M × Int32) → Prop := fun x => mm_X g (0 + 7 * x.1) (0 + 1033 * x.1) x.2.1 29 [(0, mm_r v0), (1, mm_i v1), (2, mm_i x.2.2)] []
noncomputable def f_X9_card_10 (M : mm_M) : Option (Int32 × mm_M) :=
  some ((-1), M)
set_option maxRecDepth 20000 in
theorem w_X9_card_10 {g : mm_c} (C : mm_ok g cX9_card "LessonCards" (some .int) "card" 3 9 193 38 6171) {M : mm_M} {res : Int32 × mm_M} (hf : f_X9_card_10 M = some res) (ko : (fun z => mm_q g 38 6171 (some (mm_i z.1)) z.2) res) : mm_X g 0 0 M 10 [] [] := by
  unfold f_X9_card_10 at hf
  refine xr_iconst 11 C (v := (-1)) dX9_card_10 (by decide) rfl ?_
  obtain rfl := Option.some.inj hf
  exact xr_iret C ko ⟨(Nat.le_of_ble_eq_true rfl), (Nat.le_of_ble_eq_true rfl)⟩ dX9_card_11
noncomputable def f_X9_card_24 (M : mm_M) : Option (Int32 × mm_M) :=
  some ((-2), M)
set_option maxRecDepth 20000 in
theorem w_X9_card_24 {g : mm_c} (C : mm_ok g cX9_card "LessonCards" (some .int) "card" 3 9 193 38 6171) {M : mm_M} {res : Int32 × mm_M} (hf : f_X9_card_24 M = some res) (ko : (fun z => mm_q g 38 6171 (some (mm_i z.1)) z.2) res) : mm_X g 0 0 M 24 [] [] := by
  unfold f_X9_card_24 at hf
  refine xr_bipush 26 C (v := (-2)) dX9_card_24 (by decide) rfl ?_
  obtain rfl := Option.some.inj hf
  exact xr_iret C ko ⟨(Nat.le_of_ble_eq_true rfl), (Nat.le_of_ble_eq_true rfl)⟩ dX9_card_26
noncomputable def f_X9_card_38 (M : mm_M) (c29 : Nat) (v0 : Option Nat) (v1 : Int32) (v2 : Int32) : Option ((Nat × mm_M × Int32) ⊕ (Int32 × mm_M)) :=
  (mm_fR M v0 10 2).bind fun x39 =>
  (mm_aR M x39 15 v2).bind fun x43 =>
  (mm_rc M x43 7).bind fun u45 =>
  mm_gd (c29 < 4) <|
  (f_X6_addCard M x43 v1).bind fun M45 =>
  some (.inl ((c29 + 1), M45, (v2 + 1)))
set_option maxRecDepth 20000 in
theorem w_X9_card_38 {g : mm_c} (C : mm_ok g cX9_card "LessonCards" (some .int) "card" 3 9 193 38 6171) {M : mm_M} {c29 : Nat} {v0 : Option Nat} {v1 : Int32} {v2 : Int32} {res : (Nat × mm_M × Int32) ⊕ (Int32 × mm_M)} (hf : f_X9_card_38 M c29 v0 v1 v2 = some res) (ko : (mm_o (h_X9_card_29 g v0 v1) (fun z => mm_q g 38 6171 (some (mm_i z.1)) z.2)) res) : mm_X g (0 + 7 * c29) (0 + 1033 * c29) M 38 [(0, mm_r v0), (1, mm_i v1), (2, mm_i v2)] [] := by
  unfold f_X9_card_38 at hf
  refine xr_aload_n 39 0 C dX9_card_38 rfl rfl rfl ?_
  obtain ⟨x39, h39, hf⟩ := mm_bd_e hf
  refine xr_getR 42 C cf_X9_25 rfl h39 dX9_card_39 rfl ?_
  refine xr_iload_n 43 2 C dX9_card_42 rfl rfl rfl ?_
  obtain ⟨x43, h43, hf⟩ := mm_bd_e hf
  refine xr_aldR 44 C 15 (by decide) h43 dX9_card_43 rfl ?_
  refine xr_iload_n 45 1 C dX9_card_44 rfl rfl rfl ?_
  obtain ⟨u45, g45, hf⟩ := mm_bd_e hf
  obtain ⟨hc29, hf⟩ := mm_gd_e hf
  obtain ⟨M45, h45, hf⟩ := mm_bd_e hf
  refine xr_callV 48 C [mm_i v1] cm_X9_73 (fun l G cy => c_X6_addCard l G cy h45) g45 rfl rfl ⟨⟨Nat.le_of_ble_eq_true rfl, Nat.le_of_ble_eq_true rfl⟩, (by omega), (by omega)⟩ (Nat.le_of_ble_eq_true rfl) dX9_card_45 rfl ?_
  refine xr_iinc 51 2 C dX9_card_48 rfl (by decide) (v := 1) (by decide) rfl [(2, mm_i (v2 + 1)), (0, mm_r v0), (1, mm_i v1)] rfl ?_
  refine xr_goto 29 C dX9_card_51 (by decide) ?_
  refine xr_sub [1, 2, 0] (lv2 := [(0, mm_r v0), (1, mm_i v1), (2, mm_i (v2 + 1))]) rfl ?_
  obtain rfl := Option.some.inj hf
  exact xr_widen (by omega) (by omega) ko
noncomputable def f_X9_card_54 (M : mm_M) (v0 : Option Nat) (v1 : Int32) : Option (Int32 × mm_M) :=
  (mm_fR M v0 10 3).bind fun x55 =>
  (mm_rc M x55 7).bind fun u59 =>
  (f_X6_addCard M x55 v1).bind fun M59 =>
  (mm_fR M59 v0 10 1).bind fun x63 =>
  (mm_rc M59 x63 3).bind fun u66 =>
  mm_b2 (f_X2_addCard M59 x63) fun x66 M66 =>
  some (x66, M66)
set_option maxRecDepth 20000 in
theorem w_X9_card_54 {g : mm_c} (C : mm_ok g cX9_card "LessonCards" (some .int) "card" 3 9 193 38 6171) {M : mm_M} {v0 : Option Nat} {v1 : Int32} {res : Int32 × mm_M} (hf : f_X9_card_54 M v0 v1 = some res) (ko : (fun z => mm_q g 38 6171 (some (mm_i z.1)) z.2) res) : mm_X g 28 4132 M 54 [(0, mm_r v0), (1, mm_i v1)] [] := by
  unfold f_X9_card_54 at hf
  refine xr_aload_n 55 0 C dX9_card_54 rfl rfl rfl ?_
  obtain ⟨x55, h55, hf⟩ := mm_bd_e hf
  refine xr_getR 58 C cf_X9_30 rfl h55 dX9_card_55 rfl ?_
  refine xr_iload_n 59 1 C dX9_card_58 rfl rfl rfl ?_
  obtain ⟨u59, g59, hf⟩ := mm_bd_e hf
  obtain ⟨M59, h59, hf⟩ := mm_bd_e hf
  refine xr_callV 62 C [mm_i v1] cm_X9_73 (fun l G cy => c_X6_addCard l G cy h59) g59 rfl rfl ⟨⟨Nat.le_of_ble_eq_true rfl, Nat.le_of_ble_eq_true rfl⟩, (Nat.le_of_ble_eq_true rfl), (Nat.le_of_ble_eq_true rfl)⟩ (Nat.le_of_ble_eq_true rfl) dX9_card_59 rfl ?_
  refine xr_aload_n 63 0 C dX9_card_62 rfl rfl rfl ?_
  obtain ⟨x63, h63, hf⟩ := mm_bd_e hf
  refine xr_getR 66 C cf_X9_19 rfl h63 dX9_card_63 rfl ?_
  obtain ⟨u66, g66, hf⟩ := mm_bd_e hf
  obtain ⟨x66, M66, h66, hf⟩ := mm_b2_e hf
  refine xr_callV 69 C [] cm_X9_77 (fun l G cy => c_X2_addCard l G cy h66) g66 rfl rfl ⟨⟨Nat.le_of_ble_eq_true rfl, Nat.le_of_ble_eq_true rfl⟩, (Nat.le_of_ble_eq_true rfl), (Nat.le_of_ble_eq_true rfl)⟩ (Nat.le_of_ble_eq_true rfl) dX9_card_66 rfl ?_
  obtain rfl := Option.some.inj hf
  exact xr_iret C ko ⟨(Nat.le_of_ble_eq_true rfl), (Nat.le_of_ble_eq_true rfl)⟩ dX9_card_69
noncomputable def f_X9_card_29 (M : mm_M) (c29 : Nat) (v0 : Option Nat) (v1 : Int32) (v2 : Int32) : Option ((Nat × mm_M × Int32) ⊕ (Int32 × mm_M)) :=
  (mm_fR M v0 10 2).bind fun x31 =>
  (mm_ln M x31).bind fun x34 =>
  if x34 ≤ v2 then mm_gd (c29 ≤ 4) (mm_mp (f_X9_card_54 M v0 v1)) else f_X9_card_38 M c29 v0 v1 v2
set_option maxRecDepth 20000 in
theorem w_X9_card_29 {g : mm_c} (C : mm_ok g cX9_card "LessonCards" (some .int) "card" 3 9 193 38 6171) {M : mm_M} {c29 : Nat} {v0 : Option Nat} {v1 : Int32} {v2 : Int32} {res : (Nat × mm_M × Int32) ⊕ (Int32 × mm_M)} (hf : f_X9_card_29 M c29 v0 v1 v2 = some res) (ko : (mm_o (h_X9_card_29 g v0 v1) (fun z => mm_q g 38 6171 (some (mm_i z.1)) z.2)) res) : mm_X g (0 + 7 * c29) (0 + 1033 * c29) M 29 [(0, mm_r v0), (1, mm_i v1), (2, mm_i v2)] [] := by
  unfold f_X9_card_29 at hf
  refine xr_iload_n 30 2 C dX9_card_29 rfl rfl rfl ?_
  refine xr_aload_n 31 0 C dX9_card_30 rfl rfl rfl ?_
  obtain ⟨x31, h31, hf⟩ := mm_bd_e hf
  refine xr_getR 34 C cf_X9_25 rfl h31 dX9_card_31 rfl ?_
  obtain ⟨x34, h34, hf⟩ := mm_bd_e hf
  refine xr_alen 35 C h34 dX9_card_34 rfl ?_
  refine xr_icmp_ge 54 38 C dX9_card_35 (by decide) rfl (fun hc => ?_) (fun hc => ?_)
  · replace hf := (if_pos hc).symm.trans hf
    refine xr_sub [0, 1] (lv2 := [(0, mm_r v0), (1, mm_i v1)]) rfl ?_
    obtain ⟨hcx, hf⟩ := mm_gd_e hf
    obtain ⟨z, hf2, rfl⟩ := mm_mp_e hf
    clear hf
    have hf := hf2
    clear hf2
    refine xr_widen (k := 28) (n := 4132) (by omega) (by omega) ?_
    exact w_X9_card_54 C hf ko
  · replace hf := (if_neg hc).symm.trans hf
    exact w_X9_card_38 C hf ko
noncomputable def f_X9_card_29w (M : mm_M) (v0 : Option Nat) (v1 : Int32) (v2 : Int32) : Option (Int32 × mm_M) := mm_w (fun x => f_X9_card_29 x.2.1 x.1 v0 v1 x.2.2) (0, M, v2)
theorem l_X9_card_29 {g : mm_c} (C : mm_ok g cX9_card "LessonCards" (some .int) "card" 3 9 193 38 6171) {M : mm_M} {v0 : Option Nat} {v1 : Int32} {v2 : Int32} {res : Int32 × mm_M} (hf : f_X9_card_29w M v0 v1 v2 = some res) (ko : (fun z => mm_q g 38 6171 (some (mm_i z.1)) z.2) res) : mm_X g 0 0 M 29 [(0, mm_r v0), (1, mm_i v1), (2, mm_i v2)] [] :=
  xr_widen (k := 0 + 7 * 0) (n := 0 + 1033 * 0) (by omega) (by omega) <| mm_w_W (body := fun x => f_X9_card_29 x.2.1 x.1 v0 v1 x.2.2) (Wh := h_X9_card_29 g v0 v1) (ok := (fun z => mm_q g 38 6171 (some (mm_i z.1)) z.2)) (x := (0, M, v2)) (fun x r hb ho => w_X9_card_29 C hb ho) hf ko
noncomputable def f_X9_card_27 (M : mm_M) (v0 : Option Nat) (v1 : Int32) : Option (Int32 × mm_M) :=
  f_X9_card_29w M v0 v1 0
set_option maxRecDepth 20000 in
theorem w_X9_card_27 {g : mm_c} (C : mm_ok g cX9_card "LessonCards" (some .int) "card" 3 9 193 38 6171) {M : mm_M} {v0 : Option Nat} {v1 : Int32} {res : Int32 × mm_M} (hf : f_X9_card_27 M v0 v1 = some res) (ko : (fun z => mm_q g 38 6171 (some (mm_i z.1)) z.2) res) : mm_X g 0 0 M 27 [(0, mm_r v0), (1, mm_i v1)] [] := by
  unfold f_X9_card_27 at hf
  refine xr_iconst 28 C (v := 0) dX9_card_27 (by decide) rfl ?_
  refine xr_istore_n 29 C dX9_card_28 rfl (by decide) rfl [(2, mm_i 0), (0, mm_r v0), (1, mm_i v1)] rfl ?_
  refine xr_sub [1, 2, 0] (lv2 := [(0, mm_r v0), (1, mm_i v1), (2, mm_i 0)]) rfl ?_
  exact l_X9_card_29 C hf ko
noncomputable def f_X9_card_12 (M : mm_M) (v0 : Option Nat) (v1 : Int32) : Option (Int32 × mm_M) :=
  (mm_fR M v0 10 1).bind fun x13 =>
  (mm_rc M x13 3).bind fun u16 =>
  (f_X2_size M x13).bind fun x16 =>
  if x16 < 120 then f_X9_card_27 M v0 v1 else f_X9_card_24 M
set_option maxRecDepth 20000 in
theorem w_X9_card_12 {g : mm_c} (C : mm_ok g cX9_card "LessonCards" (some .int) "card" 3 9 193 38 6171) {M : mm_M} {v0 : Option Nat} {v1 : Int32} {res : Int32 × mm_M} (hf : f_X9_card_12 M v0 v1 = some res) (ko : (fun z => mm_q g 38 6171 (some (mm_i z.1)) z.2) res) : mm_X g 0 0 M 12 [(0, mm_r v0), (1, mm_i v1)] [] := by
  unfold f_X9_card_12 at hf
  refine xr_aload_n 13 0 C dX9_card_12 rfl rfl rfl ?_
  obtain ⟨x13, h13, hf⟩ := mm_bd_e hf
  refine xr_getR 16 C cf_X9_19 rfl h13 dX9_card_13 rfl ?_
  obtain ⟨u16, g16, hf⟩ := mm_bd_e hf
  obtain ⟨x16, h16, hf⟩ := mm_bd_e hf
  refine xr_callV 19 C [] cm_X9_69 (fun l G cy => c_X2_size l G cy h16) g16 rfl rfl ⟨⟨Nat.le_of_ble_eq_true rfl, Nat.le_of_ble_eq_true rfl⟩, (Nat.le_of_ble_eq_true rfl), (Nat.le_of_ble_eq_true rfl)⟩ (Nat.le_of_ble_eq_true rfl) dX9_card_16 rfl ?_
  refine xr_bipush 21 C (v := 120) dX9_card_19 (by decide) rfl ?_
  refine xr_icmp_lt 27 24 C dX9_card_21 (by decide) rfl (fun hc => ?_) (fun hc => ?_)
  · replace hf := (if_pos hc).symm.trans hf
    exact w_X9_card_27 C hf ko
  · replace hf := (if_neg hc).symm.trans hf
    refine xr_sub [] (lv2 := []) rfl ?_
    exact w_X9_card_24 C hf ko
noncomputable def f_X9_card_5 (M : mm_M) (v0 : Option Nat) (v1 : Int32) : Option (Int32 × mm_M) :=
  if v1 ≤ 4 then f_X9_card_12 M v0 v1 else f_X9_card_10 M
set_option maxRecDepth 20000 in
theorem w_X9_card_5 {g : mm_c} (C : mm_ok g cX9_card "LessonCards" (some .int) "card" 3 9 193 38 6171) {M : mm_M} {v0 : Option Nat} {v1 : Int32} {res : Int32 × mm_M} (hf : f_X9_card_5 M v0 v1 = some res) (ko : (fun z => mm_q g 38 6171 (some (mm_i z.1)) z.2) res) : mm_X g 0 0 M 5 [(0, mm_r v0), (1, mm_i v1)] [] := by
  unfold f_X9_card_5 at hf
  refine xr_iload_n 6 1 C dX9_card_5 rfl rfl rfl ?_
  refine xr_iconst 7 C (v := 4) dX9_card_6 (by decide) rfl ?_
  refine xr_icmp_le 12 10 C dX9_card_7 (by decide) rfl (fun hc => ?_) (fun hc => ?_)
  · replace hf := (if_pos hc).symm.trans hf
    exact w_X9_card_12 C hf ko
  · replace hf := (if_neg hc).symm.trans hf
    refine xr_sub [] (lv2 := []) rfl ?_
    exact w_X9_card_10 C hf ko
noncomputable def f_X9_card_0 (M : mm_M) (v0 : Option Nat) (v1 : Int32) : Option (Int32 × mm_M) :=
  if v1 < 1 then f_X9_card_10 M else f_X9_card_5 M v0 v1
set_option maxRecDepth 20000 in
theorem w_X9_card_0 {g : mm_c} (C : mm_ok g cX9_card "LessonCards" (some .int) "card" 3 9 193 38 6171) {M : mm_M} {v0 : Option Nat} {v1 : Int32} {res : Int32 × mm_M} (hf : f_X9_card_0 M v0 v1 = some res) (ko : (fun z => mm_q g 38 6171 (some (mm_i z.1)) z.2) res) : mm_X g 0 0 M 0 [(0, mm_r v0), (1, mm_i v1)] [] := by
  unfold f_X9_card_0 at hf
  refine xr_iload_n 1 1 C dX9_card_0 rfl rfl rfl ?_
  refine xr_iconst 2 C (v := 1) dX9_card_1 (by decide) rfl ?_
  refine xr_icmp_lt 10 5 C dX9_card_2 (by decide) rfl (fun hc => ?_) (fun hc => ?_)
  · replace hf := (if_pos hc).symm.trans hf
    refine xr_sub [] (lv2 := []) rfl ?_
    exact w_X9_card_10 C hf ko
  · replace hf := (if_neg hc).symm.trans hf
    exact w_X9_card_5 C hf ko
noncomputable def f_X9_card (M : mm_M) (v0 : Option Nat) (v1 : Int32) : Option (Int32 × mm_M) := f_X9_card_0 M v0 v1
theorem c_X9_card (l : Launch) (G : va_G) (cy : Nat → ClassId) {M : mm_M} {v0 : Option Nat} {v1 : Int32} {r : Int32} {M1 : mm_M} (hf : f_X9_card M v0 v1 = some (r, M1)) : mm_Met l yX9_card cX9_card 3 (some .int) 9 193 38 6171 G cy [mm_r v0, mm_i v1] M (some (mm_i r)) M1 :=
  mm_enter (by decide) (Nat.le_of_ble_eq_true rfl) (fun p e R s m args below meth c Q C hq => xr_sub [0, 1] (lv2 := [(0, mm_r v0), (1, mm_i v1)]) rfl (w_X9_card_0 C hf hq))
noncomputable def f_X9_lean_37 (M : mm_M) : Option (Int32 × mm_M) :=
  some ((-1), M)
set_option maxRecDepth 20000 in
theorem w_X9_lean_37 {g : mm_c} (C : mm_ok g cX9_lean "LessonCards" (some .int) "lean" 4 5 111 0 0) {M : mm_M} {res : Int32 × mm_M} (hf : f_X9_lean_37 M = some res) (ko : (fun z => mm_q g 0 0 (some (mm_i z.1)) z.2) res) : mm_X g 0 0 M 37 [] [] := by
  unfold f_X9_lean_37 at hf
  refine xr_iconst 38 C (v := (-1)) dX9_lean_37 (by decide) rfl ?_
  obtain rfl := Option.some.inj hf
  exact xr_iret C ko ⟨(Nat.le_of_ble_eq_true rfl), (Nat.le_of_ble_eq_true rfl)⟩ dX9_lean_38
noncomputable def f_X9_lean_51 (M : mm_M) : Option (Int32 × mm_M) :=
  some ((-3), M)
set_option maxRecDepth 20000 in
theorem w_X9_lean_51 {g : mm_c} (C : mm_ok g cX9_lean "LessonCards" (some .int) "lean" 4 5 111 0 0) {M : mm_M} {res : Int32 × mm_M} (hf : f_X9_lean_51 M = some res) (ko : (fun z => mm_q g 0 0 (some (mm_i z.1)) z.2) res) : mm_X g 0 0 M 51 [] [] := by
  unfold f_X9_lean_51 at hf
  refine xr_bipush 53 C (v := (-3)) dX9_lean_51 (by decide) rfl ?_
  obtain rfl := Option.some.inj hf
  exact xr_iret C ko ⟨(Nat.le_of_ble_eq_true rfl), (Nat.le_of_ble_eq_true rfl)⟩ dX9_lean_53
noncomputable def f_X9_lean_54 (M : mm_M) (v2 : Int32) (v3 : Option Nat) : Option (Int32 × mm_M) :=
  (mm_rc M v3 1).bind fun u56 =>
  mm_b2 (f_X0_addLean M v3 v2) fun x56 M56 =>
  some (x56, M56)
set_option maxRecDepth 20000 in
theorem w_X9_lean_54 {g : mm_c} (C : mm_ok g cX9_lean "LessonCards" (some .int) "lean" 4 5 111 0 0) {M : mm_M} {v2 : Int32} {v3 : Option Nat} {res : Int32 × mm_M} (hf : f_X9_lean_54 M v2 v3 = some res) (ko : (fun z => mm_q g 0 0 (some (mm_i z.1)) z.2) res) : mm_X g 0 0 M 54 [(2, mm_i v2), (3, mm_r v3)] [] := by
  unfold f_X9_lean_54 at hf
  refine xr_aload_n 55 1 C dX9_lean_54 rfl rfl rfl ?_
  refine xr_iload_n 56 0 C dX9_lean_55 rfl rfl rfl ?_
  obtain ⟨u56, g56, hf⟩ := mm_bd_e hf
  obtain ⟨x56, M56, h56, hf⟩ := mm_b2_e hf
  refine xr_callV 59 C [mm_i v2] cm_X9_93 (fun l G cy => c_X0_addLean l G cy h56) g56 rfl rfl ⟨⟨Nat.le_of_ble_eq_true rfl, Nat.le_of_ble_eq_true rfl⟩, (Nat.le_of_ble_eq_true rfl), (Nat.le_of_ble_eq_true rfl)⟩ (Nat.le_of_ble_eq_true rfl) dX9_lean_56 rfl ?_
  obtain rfl := Option.some.inj hf
  exact xr_iret C ko ⟨(Nat.le_of_ble_eq_true rfl), (Nat.le_of_ble_eq_true rfl)⟩ dX9_lean_59
noncomputable def f_X9_lean_39 (M : mm_M) (v0 : Option Nat) (v1 : Int32) (v2 : Int32) (v3 : Option Nat) : Option (Int32 × mm_M) :=
  (mm_fR M v0 10 1).bind fun x40 =>
  (mm_rc M x40 3).bind fun u45 =>
  mm_b2 (f_X2_leadsTo M x40 v2 v1) fun x45 M45 =>
  if x45 = 0 then f_X9_lean_54 M45 v2 v3 else f_X9_lean_51 M45
set_option maxRecDepth 20000 in
theorem w_X9_lean_39 {g : mm_c} (C : mm_ok g cX9_lean "LessonCards" (some .int) "lean" 4 5 111 0 0) {M : mm_M} {v0 : Option Nat} {v1 : Int32} {v2 : Int32} {v3 : Option Nat} {res : Int32 × mm_M} (hf : f_X9_lean_39 M v0 v1 v2 v3 = some res) (ko : (fun z => mm_q g 0 0 (some (mm_i z.1)) z.2) res) : mm_X g 0 0 M 39 [(0, mm_r v0), (1, mm_i v1), (2, mm_i v2), (3, mm_r v3)] [] := by
  unfold f_X9_lean_39 at hf
  refine xr_aload_n 40 0 C dX9_lean_39 rfl rfl rfl ?_
  obtain ⟨x40, h40, hf⟩ := mm_bd_e hf
  refine xr_getR 43 C cf_X9_19 rfl h40 dX9_lean_40 rfl ?_
  refine xr_iload_n 44 2 C dX9_lean_43 rfl rfl rfl ?_
  refine xr_iload_n 45 1 C dX9_lean_44 rfl rfl rfl ?_
  obtain ⟨u45, g45, hf⟩ := mm_bd_e hf
  obtain ⟨x45, M45, h45, hf⟩ := mm_b2_e hf
  refine xr_callV 48 C [mm_i v2, mm_i v1] cm_X9_89 (fun l G cy => c_X2_leadsTo l G cy h45) g45 rfl rfl ⟨⟨Nat.le_of_ble_eq_true rfl, Nat.le_of_ble_eq_true rfl⟩, (Nat.le_of_ble_eq_true rfl), (Nat.le_of_ble_eq_true rfl)⟩ (Nat.le_of_ble_eq_true rfl) dX9_lean_45 rfl ?_
  refine xr_if_eq 54 51 C dX9_lean_48 (by decide) rfl (fun hc => ?_) (fun hc => ?_)
  · replace hf := (if_pos hc).symm.trans hf
    refine xr_sub [2, 3] (lv2 := [(2, mm_i v2), (3, mm_r v3)]) rfl ?_
    exact w_X9_lean_54 C hf ko
  · replace hf := (if_neg hc).symm.trans hf
    refine xr_sub [] (lv2 := []) rfl ?_
    exact w_X9_lean_51 C hf ko
noncomputable def f_X9_lean_29 (M : mm_M) (v0 : Option Nat) (v1 : Int32) (v2 : Int32) (v3 : Option Nat) : Option (Int32 × mm_M) :=
  (mm_rc M v3 1).bind fun u31 =>
  (f_X0_leansOn M v3 v2).bind fun x31 =>
  if x31 = 0 then f_X9_lean_39 M v0 v1 v2 v3 else f_X9_lean_37 M
set_option maxRecDepth 20000 in
theorem w_X9_lean_29 {g : mm_c} (C : mm_ok g cX9_lean "LessonCards" (some .int) "lean" 4 5 111 0 0) {M : mm_M} {v0 : Option Nat} {v1 : Int32} {v2 : Int32} {v3 : Option Nat} {res : Int32 × mm_M} (hf : f_X9_lean_29 M v0 v1 v2 v3 = some res) (ko : (fun z => mm_q g 0 0 (some (mm_i z.1)) z.2) res) : mm_X g 0 0 M 29 [(0, mm_r v0), (1, mm_i v1), (2, mm_i v2), (3, mm_r v3)] [] := by
  unfold f_X9_lean_29 at hf
  refine xr_aload_n 30 3 C dX9_lean_29 rfl rfl rfl ?_
  refine xr_iload_n 31 2 C dX9_lean_30 rfl rfl rfl ?_
  obtain ⟨u31, g31, hf⟩ := mm_bd_e hf
  obtain ⟨x31, h31, hf⟩ := mm_bd_e hf
  refine xr_callV 34 C [mm_i v2] cm_X9_83 (fun l G cy => c_X0_leansOn l G cy h31) g31 rfl rfl ⟨⟨Nat.le_of_ble_eq_true rfl, Nat.le_of_ble_eq_true rfl⟩, (Nat.le_of_ble_eq_true rfl), (Nat.le_of_ble_eq_true rfl)⟩ (Nat.le_of_ble_eq_true rfl) dX9_lean_31 rfl ?_
  refine xr_if_eq 39 37 C dX9_lean_34 (by decide) rfl (fun hc => ?_) (fun hc => ?_)
  · replace hf := (if_pos hc).symm.trans hf
    exact w_X9_lean_39 C hf ko
  · replace hf := (if_neg hc).symm.trans hf
    refine xr_sub [] (lv2 := []) rfl ?_
    exact w_X9_lean_37 C hf ko
noncomputable def f_X9_lean_24 (M : mm_M) (v0 : Option Nat) (v1 : Int32) (v2 : Int32) (v3 : Option Nat) : Option (Int32 × mm_M) :=
  if v1 = v2 then f_X9_lean_37 M else f_X9_lean_29 M v0 v1 v2 v3
set_option maxRecDepth 20000 in
theorem w_X9_lean_24 {g : mm_c} (C : mm_ok g cX9_lean "LessonCards" (some .int) "lean" 4 5 111 0 0) {M : mm_M} {v0 : Option Nat} {v1 : Int32} {v2 : Int32} {v3 : Option Nat} {res : Int32 × mm_M} (hf : f_X9_lean_24 M v0 v1 v2 v3 = some res) (ko : (fun z => mm_q g 0 0 (some (mm_i z.1)) z.2) res) : mm_X g 0 0 M 24 [(0, mm_r v0), (1, mm_i v1), (2, mm_i v2), (3, mm_r v3)] [] := by
  unfold f_X9_lean_24 at hf
  refine xr_iload_n 25 1 C dX9_lean_24 rfl rfl rfl ?_
  refine xr_iload_n 26 2 C dX9_lean_25 rfl rfl rfl ?_
  refine xr_icmp_eq 37 29 C dX9_lean_26 (by decide) rfl (fun hc => ?_) (fun hc => ?_)
  · replace hf := (if_pos hc).symm.trans hf
    refine xr_sub [] (lv2 := []) rfl ?_
    exact w_X9_lean_37 C hf ko
  · replace hf := (if_neg hc).symm.trans hf
    exact w_X9_lean_29 C hf ko
noncomputable def f_X9_lean_13 (M : mm_M) (v0 : Option Nat) (v1 : Int32) (v2 : Int32) (v3 : Option Nat) : Option (Int32 × mm_M) :=
  (mm_fR M v0 10 1).bind fun x14 =>
  (mm_rc M x14 3).bind fun u18 =>
  (f_X2_cardAt M x14 v2).bind fun x18 =>
  if x18 = none then f_X9_lean_37 M else f_X9_lean_24 M v0 v1 v2 v3
set_option maxRecDepth 20000 in
theorem w_X9_lean_13 {g : mm_c} (C : mm_ok g cX9_lean "LessonCards" (some .int) "lean" 4 5 111 0 0) {M : mm_M} {v0 : Option Nat} {v1 : Int32} {v2 : Int32} {v3 : Option Nat} {res : Int32 × mm_M} (hf : f_X9_lean_13 M v0 v1 v2 v3 = some res) (ko : (fun z => mm_q g 0 0 (some (mm_i z.1)) z.2) res) : mm_X g 0 0 M 13 [(0, mm_r v0), (1, mm_i v1), (2, mm_i v2), (3, mm_r v3)] [] := by
  unfold f_X9_lean_13 at hf
  refine xr_aload_n 14 0 C dX9_lean_13 rfl rfl rfl ?_
  obtain ⟨x14, h14, hf⟩ := mm_bd_e hf
  refine xr_getR 17 C cf_X9_19 rfl h14 dX9_lean_14 rfl ?_
  refine xr_iload_n 18 2 C dX9_lean_17 rfl rfl rfl ?_
  obtain ⟨u18, g18, hf⟩ := mm_bd_e hf
  obtain ⟨x18, h18, hf⟩ := mm_bd_e hf
  refine xr_callV 21 C [mm_i v2] cm_X9_79 (fun l G cy => c_X2_cardAt l G cy h18) g18 rfl rfl ⟨⟨Nat.le_of_ble_eq_true rfl, Nat.le_of_ble_eq_true rfl⟩, (Nat.le_of_ble_eq_true rfl), (Nat.le_of_ble_eq_true rfl)⟩ (Nat.le_of_ble_eq_true rfl) dX9_lean_18 rfl ?_
  refine xr_ifnull 37 24 C dX9_lean_21 (by decide) rfl (fun hc => ?_) (fun hc => ?_)
  · replace hf := (if_pos hc).symm.trans hf
    refine xr_sub [] (lv2 := []) rfl ?_
    exact w_X9_lean_37 C hf ko
  · replace hf := (if_neg hc).symm.trans hf
    exact w_X9_lean_24 C hf ko
noncomputable def f_X9_lean_0 (M : mm_M) (v0 : Option Nat) (v1 : Int32) (v2 : Int32) : Option (Int32 × mm_M) :=
  (mm_fR M v0 10 1).bind fun x1 =>
  (mm_rc M x1 3).bind fun u5 =>
  (f_X2_cardAt M x1 v1).bind fun x5 =>
  if x5 = none then f_X9_lean_37 M else f_X9_lean_13 M v0 v1 v2 x5
set_option maxRecDepth 20000 in
theorem w_X9_lean_0 {g : mm_c} (C : mm_ok g cX9_lean "LessonCards" (some .int) "lean" 4 5 111 0 0) {M : mm_M} {v0 : Option Nat} {v1 : Int32} {v2 : Int32} {res : Int32 × mm_M} (hf : f_X9_lean_0 M v0 v1 v2 = some res) (ko : (fun z => mm_q g 0 0 (some (mm_i z.1)) z.2) res) : mm_X g 0 0 M 0 [(0, mm_r v0), (1, mm_i v1), (2, mm_i v2)] [] := by
  unfold f_X9_lean_0 at hf
  refine xr_aload_n 1 0 C dX9_lean_0 rfl rfl rfl ?_
  obtain ⟨x1, h1, hf⟩ := mm_bd_e hf
  refine xr_getR 4 C cf_X9_19 rfl h1 dX9_lean_1 rfl ?_
  refine xr_iload_n 5 1 C dX9_lean_4 rfl rfl rfl ?_
  obtain ⟨u5, g5, hf⟩ := mm_bd_e hf
  obtain ⟨x5, h5, hf⟩ := mm_bd_e hf
  refine xr_callV 8 C [mm_i v1] cm_X9_79 (fun l G cy => c_X2_cardAt l G cy h5) g5 rfl rfl ⟨⟨Nat.le_of_ble_eq_true rfl, Nat.le_of_ble_eq_true rfl⟩, (Nat.le_of_ble_eq_true rfl), (Nat.le_of_ble_eq_true rfl)⟩ (Nat.le_of_ble_eq_true rfl) dX9_lean_5 rfl ?_
  refine xr_astore_n 9 C dX9_lean_8 rfl (by decide) rfl [(3, mm_r x5), (0, mm_r v0), (1, mm_i v1), (2, mm_i v2)] rfl ?_
  refine xr_aload_n 10 0 C dX9_lean_9 rfl rfl rfl ?_
  refine xr_ifnull 37 13 C dX9_lean_10 (by decide) rfl (fun hc => ?_) (fun hc => ?_)
  · replace hf := (if_pos hc).symm.trans hf
    refine xr_sub [] (lv2 := []) rfl ?_
    exact w_X9_lean_37 C hf ko
  · replace hf := (if_neg hc).symm.trans hf
    refine xr_sub [1, 2, 3, 0] (lv2 := [(0, mm_r v0), (1, mm_i v1), (2, mm_i v2), (3, mm_r x5)]) rfl ?_
    exact w_X9_lean_13 C hf ko
noncomputable def f_X9_lean (M : mm_M) (v0 : Option Nat) (v1 : Int32) (v2 : Int32) : Option (Int32 × mm_M) := f_X9_lean_0 M v0 v1 v2
theorem c_X9_lean (l : Launch) (G : va_G) (cy : Nat → ClassId) {M : mm_M} {v0 : Option Nat} {v1 : Int32} {v2 : Int32} {r : Int32} {M1 : mm_M} (hf : f_X9_lean M v0 v1 v2 = some (r, M1)) : mm_Met l yX9_lean cX9_lean 4 (some .int) 5 111 0 0 G cy [mm_r v0, mm_i v1, mm_i v2] M (some (mm_i r)) M1 :=
  mm_enter (by decide) (Nat.le_of_ble_eq_true rfl) (fun p e R s m args below meth c Q C hq => xr_sub [0, 1, 2] (lv2 := [(0, mm_r v0), (1, mm_i v1), (2, mm_i v2)]) rfl (w_X9_lean_0 C hf hq))
noncomputable def f_X9_isRule_14 (M : mm_M) (s0 : Int32) : Option (Int32) :=
  mm_gd (s0 = 0 ∨ s0 = 1) <|
  some s0
set_option maxRecDepth 20000 in
theorem w_X9_isRule_14 {g : mm_c} (C : mm_ok g cX9_isRule "LessonCards" (some .boolean) "isRule" 1 0 0 0 0) {M : mm_M} {s0 : Int32} {res : Int32} (hf : f_X9_isRule_14 M s0 = some res) (ko : (fun z => mm_q g 0 0 (some (mm_i z)) M) res) : mm_X g 0 0 M 14 [] [mm_i s0] := by
  unfold f_X9_isRule_14 at hf
  obtain ⟨hz, hf⟩ := mm_gd_e hf
  obtain rfl := Option.some.inj hf
  exact xr_zret C hz ko ⟨(Nat.le_of_ble_eq_true rfl), (Nat.le_of_ble_eq_true rfl)⟩ dX9_isRule_14
noncomputable def f_X9_isRule_9 (M : mm_M) : Option (Int32) :=
  f_X9_isRule_14 M 1
set_option maxRecDepth 20000 in
theorem w_X9_isRule_9 {g : mm_c} (C : mm_ok g cX9_isRule "LessonCards" (some .boolean) "isRule" 1 0 0 0 0) {M : mm_M} {res : Int32} (hf : f_X9_isRule_9 M = some res) (ko : (fun z => mm_q g 0 0 (some (mm_i z)) M) res) : mm_X g 0 0 M 9 [] [] := by
  unfold f_X9_isRule_9 at hf
  refine xr_iconst 10 C (v := 1) dX9_isRule_9 (by decide) rfl ?_
  refine xr_goto 14 C dX9_isRule_10 (by decide) ?_
  exact w_X9_isRule_14 C hf ko
noncomputable def f_X9_isRule_13 (M : mm_M) : Option (Int32) :=
  f_X9_isRule_14 M 0
set_option maxRecDepth 20000 in
theorem w_X9_isRule_13 {g : mm_c} (C : mm_ok g cX9_isRule "LessonCards" (some .boolean) "isRule" 1 0 0 0 0) {M : mm_M} {res : Int32} (hf : f_X9_isRule_13 M = some res) (ko : (fun z => mm_q g 0 0 (some (mm_i z)) M) res) : mm_X g 0 0 M 13 [] [] := by
  unfold f_X9_isRule_13 at hf
  refine xr_iconst 14 C (v := 0) dX9_isRule_13 (by decide) rfl ?_
  exact w_X9_isRule_14 C hf ko
noncomputable def f_X9_isRule_4 (M : mm_M) (v0 : Int32) : Option (Int32) :=
  if 2 < v0 then f_X9_isRule_13 M else f_X9_isRule_9 M
set_option maxRecDepth 20000 in
theorem w_X9_isRule_4 {g : mm_c} (C : mm_ok g cX9_isRule "LessonCards" (some .boolean) "isRule" 1 0 0 0 0) {M : mm_M} {v0 : Int32} {res : Int32} (hf : f_X9_isRule_4 M v0 = some res) (ko : (fun z => mm_q g 0 0 (some (mm_i z)) M) res) : mm_X g 0 0 M 4 [(0, mm_i v0)] [] := by
  unfold f_X9_isRule_4 at hf
  refine xr_iload_n 5 0 C dX9_isRule_4 rfl rfl rfl ?_
  refine xr_iconst 6 C (v := 2) dX9_isRule_5 (by decide) rfl ?_
  refine xr_icmp_gt 13 9 C dX9_isRule_6 (by decide) rfl (fun hc => ?_) (fun hc => ?_)
  · replace hf := (if_pos hc).symm.trans hf
    refine xr_sub [] (lv2 := []) rfl ?_
    exact w_X9_isRule_13 C hf ko
  · replace hf := (if_neg hc).symm.trans hf
    refine xr_sub [] (lv2 := []) rfl ?_
    exact w_X9_isRule_9 C hf ko
noncomputable def f_X9_isRule_0 (M : mm_M) (v0 : Int32) : Option (Int32) :=
  if v0 < 0 then f_X9_isRule_13 M else f_X9_isRule_4 M v0
set_option maxRecDepth 20000 in
theorem w_X9_isRule_0 {g : mm_c} (C : mm_ok g cX9_isRule "LessonCards" (some .boolean) "isRule" 1 0 0 0 0) {M : mm_M} {v0 : Int32} {res : Int32} (hf : f_X9_isRule_0 M v0 = some res) (ko : (fun z => mm_q g 0 0 (some (mm_i z)) M) res) : mm_X g 0 0 M 0 [(0, mm_i v0)] [] := by
  unfold f_X9_isRule_0 at hf
  refine xr_iload_n 1 0 C dX9_isRule_0 rfl rfl rfl ?_
  refine xr_if_lt 13 4 C dX9_isRule_1 (by decide) rfl (fun hc => ?_) (fun hc => ?_)
  · replace hf := (if_pos hc).symm.trans hf
    refine xr_sub [] (lv2 := []) rfl ?_
    exact w_X9_isRule_13 C hf ko
  · replace hf := (if_neg hc).symm.trans hf
    exact w_X9_isRule_4 C hf ko
noncomputable def f_X9_isRule (M : mm_M) (v0 : Int32) : Option (Int32) := f_X9_isRule_0 M v0
theorem c_X9_isRule (l : Launch) (G : va_G) (cy : Nat → ClassId) {M : mm_M} {v0 : Int32} {r : Int32} (hf : f_X9_isRule M v0 = some r) : mm_Met l yX9_isRule cX9_isRule 1 (some .boolean) 0 0 0 0 G cy [mm_i v0] M (some (mm_i r)) M :=
  mm_enter (by decide) (Nat.le_of_ble_eq_true rfl) (fun p e R s m args below meth c Q C hq => xr_sub [0] (lv2 := [(0, mm_i v0)]) rfl (w_X9_isRule_0 C hf hq))
noncomputable def f_X9_rule_7 (M : mm_M) : Option (Int32 × mm_M) :=
  some ((-1), M)
set_option maxRecDepth 20000 in
theorem w_X9_rule_7 {g : mm_c} (C : mm_ok g cX9_rule "LessonCards" (some .int) "rule" 3 1 20 0 0) {M : mm_M} {res : Int32 × mm_M} (hf : f_X9_rule_7 M = some res) (ko : (fun z => mm_q g 0 0 (some (mm_i z.1)) z.2) res) : mm_X g 0 0 M 7 [] [] := by
  unfold f_X9_rule_7 at hf
  refine xr_iconst 8 C (v := (-1)) dX9_rule_7 (by decide) rfl ?_
  obtain rfl := Option.some.inj hf
  exact xr_iret C ko ⟨(Nat.le_of_ble_eq_true rfl), (Nat.le_of_ble_eq_true rfl)⟩ dX9_rule_8
noncomputable def f_X9_rule_9 (M : mm_M) (v0 : Option Nat) (v1 : Int32) : Option (Int32 × mm_M) :=
  (mm_fI M v0 10 8).bind fun x10 =>
  (mm_pI M v0 10 8 v1).bind fun M16 =>
  some (x10, M16)
set_option maxRecDepth 20000 in
theorem w_X9_rule_9 {g : mm_c} (C : mm_ok g cX9_rule "LessonCards" (some .int) "rule" 3 1 20 0 0) {M : mm_M} {v0 : Option Nat} {v1 : Int32} {res : Int32 × mm_M} (hf : f_X9_rule_9 M v0 v1 = some res) (ko : (fun z => mm_q g 0 0 (some (mm_i z.1)) z.2) res) : mm_X g 0 0 M 9 [(0, mm_r v0), (1, mm_i v1)] [] := by
  unfold f_X9_rule_9 at hf
  refine xr_aload_n 10 0 C dX9_rule_9 rfl rfl rfl ?_
  obtain ⟨x10, h10, hf⟩ := mm_bd_e hf
  refine xr_getI 13 C cf_X9_59 rfl h10 dX9_rule_10 rfl ?_
  refine xr_istore_n 14 C dX9_rule_13 rfl (by decide) rfl [(2, mm_i x10), (0, mm_r v0), (1, mm_i v1)] rfl ?_
  refine xr_aload_n 15 1 C dX9_rule_14 rfl rfl rfl ?_
  refine xr_iload_n 16 2 C dX9_rule_15 rfl rfl rfl ?_
  obtain ⟨M16, h16, hf⟩ := mm_bd_e hf
  refine xr_putI 19 C cf_X9_59 (fun h => by cases h) h16 dX9_rule_16 rfl ?_
  refine xr_iload_n 20 0 C dX9_rule_19 rfl rfl rfl ?_
  obtain rfl := Option.some.inj hf
  exact xr_iret C ko ⟨(Nat.le_of_ble_eq_true rfl), (Nat.le_of_ble_eq_true rfl)⟩ dX9_rule_20
noncomputable def f_X9_rule_0 (M : mm_M) (v0 : Option Nat) (v1 : Int32) : Option (Int32 × mm_M) :=
  (f_X9_isRule M v1).bind fun x1 =>
  if x1 = 0 then f_X9_rule_7 M else f_X9_rule_9 M v0 v1
set_option maxRecDepth 20000 in
theorem w_X9_rule_0 {g : mm_c} (C : mm_ok g cX9_rule "LessonCards" (some .int) "rule" 3 1 20 0 0) {M : mm_M} {v0 : Option Nat} {v1 : Int32} {res : Int32 × mm_M} (hf : f_X9_rule_0 M v0 v1 = some res) (ko : (fun z => mm_q g 0 0 (some (mm_i z.1)) z.2) res) : mm_X g 0 0 M 0 [(0, mm_r v0), (1, mm_i v1)] [] := by
  unfold f_X9_rule_0 at hf
  refine xr_iload_n 1 1 C dX9_rule_0 rfl rfl rfl ?_
  obtain ⟨x1, h1, hf⟩ := mm_bd_e hf
  refine xr_callS 4 C [mm_i v1] cm_X9_97 (fun l G cy => c_X9_isRule l G cy h1) rfl rfl ⟨⟨Nat.le_of_ble_eq_true rfl, Nat.le_of_ble_eq_true rfl⟩, (Nat.le_of_ble_eq_true rfl), (Nat.le_of_ble_eq_true rfl)⟩ (Nat.le_of_ble_eq_true rfl) dX9_rule_1 rfl ?_
  refine xr_if_ne 9 7 C dX9_rule_4 (by decide) rfl (fun hc => ?_) (fun hc => ?_)
  · replace hf := (if_neg hc).symm.trans hf
    exact w_X9_rule_9 C hf ko
  · replace hf := (if_pos hc).symm.trans hf
    refine xr_sub [] (lv2 := []) rfl ?_
    exact w_X9_rule_7 C hf ko
noncomputable def f_X9_rule (M : mm_M) (v0 : Option Nat) (v1 : Int32) : Option (Int32 × mm_M) := f_X9_rule_0 M v0 v1
theorem c_X9_rule (l : Launch) (G : va_G) (cy : Nat → ClassId) {M : mm_M} {v0 : Option Nat} {v1 : Int32} {r : Int32} {M1 : mm_M} (hf : f_X9_rule M v0 v1 = some (r, M1)) : mm_Met l yX9_rule cX9_rule 3 (some .int) 1 20 0 0 G cy [mm_r v0, mm_i v1] M (some (mm_i r)) M1 :=
  mm_enter (by decide) (Nat.le_of_ble_eq_true rfl) (fun p e R s m args below meth c Q C hq => xr_sub [0, 1] (lv2 := [(0, mm_r v0), (1, mm_i v1)]) rfl (w_X9_rule_0 C hf hq))
noncomputable def f_X9_isAnswer_14 (M : mm_M) (s0 : Int32) : Option (Int32) :=
  mm_gd (s0 = 0 ∨ s0 = 1) <|
  some s0
set_option maxRecDepth 20000 in
theorem w_X9_isAnswer_14 {g : mm_c} (C : mm_ok g cX9_isAnswer "LessonCards" (some .boolean) "isAnswer" 1 0 0 0 0) {M : mm_M} {s0 : Int32} {res : Int32} (hf : f_X9_isAnswer_14 M s0 = some res) (ko : (fun z => mm_q g 0 0 (some (mm_i z)) M) res) : mm_X g 0 0 M 14 [] [mm_i s0] := by
  unfold f_X9_isAnswer_14 at hf
  obtain ⟨hz, hf⟩ := mm_gd_e hf
  obtain rfl := Option.some.inj hf
  exact xr_zret C hz ko ⟨(Nat.le_of_ble_eq_true rfl), (Nat.le_of_ble_eq_true rfl)⟩ dX9_isAnswer_14
noncomputable def f_X9_isAnswer_9 (M : mm_M) : Option (Int32) :=
  f_X9_isAnswer_14 M 1
set_option maxRecDepth 20000 in
theorem w_X9_isAnswer_9 {g : mm_c} (C : mm_ok g cX9_isAnswer "LessonCards" (some .boolean) "isAnswer" 1 0 0 0 0) {M : mm_M} {res : Int32} (hf : f_X9_isAnswer_9 M = some res) (ko : (fun z => mm_q g 0 0 (some (mm_i z)) M) res) : mm_X g 0 0 M 9 [] [] := by
  unfold f_X9_isAnswer_9 at hf
  refine xr_iconst 10 C (v := 1) dX9_isAnswer_9 (by decide) rfl ?_
  refine xr_goto 14 C dX9_isAnswer_10 (by decide) ?_
  exact w_X9_isAnswer_14 C hf ko
noncomputable def f_X9_isAnswer_13 (M : mm_M) : Option (Int32) :=
  f_X9_isAnswer_14 M 0
set_option maxRecDepth 20000 in
theorem w_X9_isAnswer_13 {g : mm_c} (C : mm_ok g cX9_isAnswer "LessonCards" (some .boolean) "isAnswer" 1 0 0 0 0) {M : mm_M} {res : Int32} (hf : f_X9_isAnswer_13 M = some res) (ko : (fun z => mm_q g 0 0 (some (mm_i z)) M) res) : mm_X g 0 0 M 13 [] [] := by
  unfold f_X9_isAnswer_13 at hf
  refine xr_iconst 14 C (v := 0) dX9_isAnswer_13 (by decide) rfl ?_
  exact w_X9_isAnswer_14 C hf ko
noncomputable def f_X9_isAnswer_4 (M : mm_M) (v0 : Int32) : Option (Int32) :=
  if 3 < v0 then f_X9_isAnswer_13 M else f_X9_isAnswer_9 M
set_option maxRecDepth 20000 in
theorem w_X9_isAnswer_4 {g : mm_c} (C : mm_ok g cX9_isAnswer "LessonCards" (some .boolean) "isAnswer" 1 0 0 0 0) {M : mm_M} {v0 : Int32} {res : Int32} (hf : f_X9_isAnswer_4 M v0 = some res) (ko : (fun z => mm_q g 0 0 (some (mm_i z)) M) res) : mm_X g 0 0 M 4 [(0, mm_i v0)] [] := by
  unfold f_X9_isAnswer_4 at hf
  refine xr_iload_n 5 0 C dX9_isAnswer_4 rfl rfl rfl ?_
  refine xr_iconst 6 C (v := 3) dX9_isAnswer_5 (by decide) rfl ?_
  refine xr_icmp_gt 13 9 C dX9_isAnswer_6 (by decide) rfl (fun hc => ?_) (fun hc => ?_)
  · replace hf := (if_pos hc).symm.trans hf
    refine xr_sub [] (lv2 := []) rfl ?_
    exact w_X9_isAnswer_13 C hf ko
  · replace hf := (if_neg hc).symm.trans hf
    refine xr_sub [] (lv2 := []) rfl ?_
    exact w_X9_isAnswer_9 C hf ko
noncomputable def f_X9_isAnswer_0 (M : mm_M) (v0 : Int32) : Option (Int32) :=
  if v0 < 0 then f_X9_isAnswer_13 M else f_X9_isAnswer_4 M v0
set_option maxRecDepth 20000 in
theorem w_X9_isAnswer_0 {g : mm_c} (C : mm_ok g cX9_isAnswer "LessonCards" (some .boolean) "isAnswer" 1 0 0 0 0) {M : mm_M} {v0 : Int32} {res : Int32} (hf : f_X9_isAnswer_0 M v0 = some res) (ko : (fun z => mm_q g 0 0 (some (mm_i z)) M) res) : mm_X g 0 0 M 0 [(0, mm_i v0)] [] := by
  unfold f_X9_isAnswer_0 at hf
  refine xr_iload_n 1 0 C dX9_isAnswer_0 rfl rfl rfl ?_
  refine xr_if_lt 13 4 C dX9_isAnswer_1 (by decide) rfl (fun hc => ?_) (fun hc => ?_)
  · replace hf := (if_pos hc).symm.trans hf
    refine xr_sub [] (lv2 := []) rfl ?_
    exact w_X9_isAnswer_13 C hf ko
  · replace hf := (if_neg hc).symm.trans hf
    exact w_X9_isAnswer_4 C hf ko
noncomputable def f_X9_isAnswer (M : mm_M) (v0 : Int32) : Option (Int32) := f_X9_isAnswer_0 M v0
theorem c_X9_isAnswer (l : Launch) (G : va_G) (cy : Nat → ClassId) {M : mm_M} {v0 : Int32} {r : Int32} (hf : f_X9_isAnswer M v0 = some r) : mm_Met l yX9_isAnswer cX9_isAnswer 1 (some .boolean) 0 0 0 0 G cy [mm_i v0] M (some (mm_i r)) M :=
  mm_enter (by decide) (Nat.le_of_ble_eq_true rfl) (fun p e R s m args below meth c Q C hq => xr_sub [0] (lv2 := [(0, mm_i v0)]) rfl (w_X9_isAnswer_0 C hf hq))
noncomputable def f_X9_table_18 (M : mm_M) : Option (Int32 × mm_M) :=
  some ((-1), M)
set_option maxRecDepth 20000 in
theorem w_X9_table_18 {g : mm_c} (C : mm_ok g cX9_table "LessonCards" (some .int) "table" 4 1 20 0 0) {M : mm_M} {res : Int32 × mm_M} (hf : f_X9_table_18 M = some res) (ko : (fun z => mm_q g 0 0 (some (mm_i z.1)) z.2) res) : mm_X g 0 0 M 18 [] [] := by
  unfold f_X9_table_18 at hf
  refine xr_iconst 19 C (v := (-1)) dX9_table_18 (by decide) rfl ?_
  obtain rfl := Option.some.inj hf
  exact xr_iret C ko ⟨(Nat.le_of_ble_eq_true rfl), (Nat.le_of_ble_eq_true rfl)⟩ dX9_table_19
noncomputable def f_X9_table_20 (M : mm_M) (v0 : Option Nat) (v1 : Int32) (v2 : Int32) : Option (Int32 × mm_M) :=
  (mm_fR M v0 10 7).bind fun x21 =>
  (mm_aI M x21 12 v1).bind fun x25 =>
  (mm_fR M v0 10 7).bind fun x28 =>
  (mm_tI M x28 v1 v2).bind fun M33 =>
  some (x25, M33)
set_option maxRecDepth 20000 in
theorem w_X9_table_20 {g : mm_c} (C : mm_ok g cX9_table "LessonCards" (some .int) "table" 4 1 20 0 0) {M : mm_M} {v0 : Option Nat} {v1 : Int32} {v2 : Int32} {res : Int32 × mm_M} (hf : f_X9_table_20 M v0 v1 v2 = some res) (ko : (fun z => mm_q g 0 0 (some (mm_i z.1)) z.2) res) : mm_X g 0 0 M 20 [(0, mm_r v0), (1, mm_i v1), (2, mm_i v2)] [] := by
  unfold f_X9_table_20 at hf
  refine xr_aload_n 21 0 C dX9_table_20 rfl rfl rfl ?_
  obtain ⟨x21, h21, hf⟩ := mm_bd_e hf
  refine xr_getR 24 C cf_X9_55 rfl h21 dX9_table_21 rfl ?_
  refine xr_iload_n 25 1 C dX9_table_24 rfl rfl rfl ?_
  obtain ⟨x25, h25, hf⟩ := mm_bd_e hf
  refine xr_aldI 26 C h25 dX9_table_25 rfl ?_
  refine xr_istore_n 27 C dX9_table_26 rfl (by decide) rfl [(3, mm_i x25), (0, mm_r v0), (1, mm_i v1), (2, mm_i v2)] rfl ?_
  refine xr_aload_n 28 1 C dX9_table_27 rfl rfl rfl ?_
  obtain ⟨x28, h28, hf⟩ := mm_bd_e hf
  refine xr_getR 31 C cf_X9_55 rfl h28 dX9_table_28 rfl ?_
  refine xr_iload_n 32 2 C dX9_table_31 rfl rfl rfl ?_
  refine xr_iload_n 33 3 C dX9_table_32 rfl rfl rfl ?_
  obtain ⟨M33, h33, hf⟩ := mm_bd_e hf
  refine xr_astI 34 C h33 dX9_table_33 rfl ?_
  refine xr_iload_n 35 0 C dX9_table_34 rfl rfl rfl ?_
  obtain rfl := Option.some.inj hf
  exact xr_iret C ko ⟨(Nat.le_of_ble_eq_true rfl), (Nat.le_of_ble_eq_true rfl)⟩ dX9_table_35
noncomputable def f_X9_table_12 (M : mm_M) (v0 : Option Nat) (v1 : Int32) (v2 : Int32) : Option (Int32 × mm_M) :=
  if v2 ≤ 100000 then f_X9_table_20 M v0 v1 v2 else f_X9_table_18 M
set_option maxRecDepth 20000 in
theorem w_X9_table_12 {g : mm_c} (C : mm_ok g cX9_table "LessonCards" (some .int) "table" 4 1 20 0 0) {M : mm_M} {v0 : Option Nat} {v1 : Int32} {v2 : Int32} {res : Int32 × mm_M} (hf : f_X9_table_12 M v0 v1 v2 = some res) (ko : (fun z => mm_q g 0 0 (some (mm_i z.1)) z.2) res) : mm_X g 0 0 M 12 [(0, mm_r v0), (1, mm_i v1), (2, mm_i v2)] [] := by
  unfold f_X9_table_12 at hf
  refine xr_iload_n 13 2 C dX9_table_12 rfl rfl rfl ?_
  refine xr_ldc 15 C wd_435 dX9_table_13 rfl ?_
  refine xr_icmp_le 20 18 C dX9_table_15 (by decide) rfl (fun hc => ?_) (fun hc => ?_)
  · replace hf := (if_pos hc).symm.trans hf
    exact w_X9_table_20 C hf ko
  · replace hf := (if_neg hc).symm.trans hf
    refine xr_sub [] (lv2 := []) rfl ?_
    exact w_X9_table_18 C hf ko
noncomputable def f_X9_table_7 (M : mm_M) (v0 : Option Nat) (v1 : Int32) (v2 : Int32) : Option (Int32 × mm_M) :=
  if v2 < 1 then f_X9_table_18 M else f_X9_table_12 M v0 v1 v2
set_option maxRecDepth 20000 in
theorem w_X9_table_7 {g : mm_c} (C : mm_ok g cX9_table "LessonCards" (some .int) "table" 4 1 20 0 0) {M : mm_M} {v0 : Option Nat} {v1 : Int32} {v2 : Int32} {res : Int32 × mm_M} (hf : f_X9_table_7 M v0 v1 v2 = some res) (ko : (fun z => mm_q g 0 0 (some (mm_i z.1)) z.2) res) : mm_X g 0 0 M 7 [(0, mm_r v0), (1, mm_i v1), (2, mm_i v2)] [] := by
  unfold f_X9_table_7 at hf
  refine xr_iload_n 8 2 C dX9_table_7 rfl rfl rfl ?_
  refine xr_iconst 9 C (v := 1) dX9_table_8 (by decide) rfl ?_
  refine xr_icmp_lt 18 12 C dX9_table_9 (by decide) rfl (fun hc => ?_) (fun hc => ?_)
  · replace hf := (if_pos hc).symm.trans hf
    refine xr_sub [] (lv2 := []) rfl ?_
    exact w_X9_table_18 C hf ko
  · replace hf := (if_neg hc).symm.trans hf
    exact w_X9_table_12 C hf ko
noncomputable def f_X9_table_0 (M : mm_M) (v0 : Option Nat) (v1 : Int32) (v2 : Int32) : Option (Int32 × mm_M) :=
  (f_X9_isAnswer M v1).bind fun x1 =>
  if x1 = 0 then f_X9_table_18 M else f_X9_table_7 M v0 v1 v2
set_option maxRecDepth 20000 in
theorem w_X9_table_0 {g : mm_c} (C : mm_ok g cX9_table "LessonCards" (some .int) "table" 4 1 20 0 0) {M : mm_M} {v0 : Option Nat} {v1 : Int32} {v2 : Int32} {res : Int32 × mm_M} (hf : f_X9_table_0 M v0 v1 v2 = some res) (ko : (fun z => mm_q g 0 0 (some (mm_i z.1)) z.2) res) : mm_X g 0 0 M 0 [(0, mm_r v0), (1, mm_i v1), (2, mm_i v2)] [] := by
  unfold f_X9_table_0 at hf
  refine xr_iload_n 1 1 C dX9_table_0 rfl rfl rfl ?_
  obtain ⟨x1, h1, hf⟩ := mm_bd_e hf
  refine xr_callS 4 C [mm_i v1] cm_X9_100 (fun l G cy => c_X9_isAnswer l G cy h1) rfl rfl ⟨⟨Nat.le_of_ble_eq_true rfl, Nat.le_of_ble_eq_true rfl⟩, (Nat.le_of_ble_eq_true rfl), (Nat.le_of_ble_eq_true rfl)⟩ (Nat.le_of_ble_eq_true rfl) dX9_table_1 rfl ?_
  refine xr_if_eq 18 7 C dX9_table_4 (by decide) rfl (fun hc => ?_) (fun hc => ?_)
  · replace hf := (if_pos hc).symm.trans hf
    refine xr_sub [] (lv2 := []) rfl ?_
    exact w_X9_table_18 C hf ko
  · replace hf := (if_neg hc).symm.trans hf
    exact w_X9_table_7 C hf ko
noncomputable def f_X9_table (M : mm_M) (v0 : Option Nat) (v1 : Int32) (v2 : Int32) : Option (Int32 × mm_M) := f_X9_table_0 M v0 v1 v2
theorem c_X9_table (l : Launch) (G : va_G) (cy : Nat → ClassId) {M : mm_M} {v0 : Option Nat} {v1 : Int32} {v2 : Int32} {r : Int32} {M1 : mm_M} (hf : f_X9_table M v0 v1 v2 = some (r, M1)) : mm_Met l yX9_table cX9_table 4 (some .int) 1 20 0 0 G cy [mm_r v0, mm_i v1, mm_i v2] M (some (mm_i r)) M1 :=
  mm_enter (by decide) (Nat.le_of_ble_eq_true rfl) (fun p e R s m args below meth c Q C hq => xr_sub [0, 1, 2] (lv2 := [(0, mm_r v0), (1, mm_i v1), (2, mm_i v2)]) rfl (w_X9_table_0 C hf hq))
noncomputable def f_X9_most_21 (M : mm_M) : Option (Int32 × mm_M) :=
  some ((-1), M)
set_option maxRecDepth 20000 in
theorem w_X9_most_21 {g : mm_c} (C : mm_ok g cX9_most "LessonCards" (some .int) "most" 3 0 0 0 0) {M : mm_M} {res : Int32 × mm_M} (hf : f_X9_most_21 M = some res) (ko : (fun z => mm_q g 0 0 (some (mm_i z.1)) z.2) res) : mm_X g 0 0 M 21 [] [] := by
  unfold f_X9_most_21 at hf
  refine xr_iconst 22 C (v := (-1)) dX9_most_21 (by decide) rfl ?_
  obtain rfl := Option.some.inj hf
  exact xr_iret C ko ⟨(Nat.le_of_ble_eq_true rfl), (Nat.le_of_ble_eq_true rfl)⟩ dX9_most_22
noncomputable def f_X9_most_23 (M : mm_M) (v0 : Option Nat) (v1 : Int32) (v2 : Int32) : Option (Int32 × mm_M) :=
  (mm_pI M v0 10 9 v1).bind fun M25 =>
  (mm_pI M25 v0 10 10 v2).bind fun M30 =>
  some (1, M30)
set_option maxRecDepth 20000 in
theorem w_X9_most_23 {g : mm_c} (C : mm_ok g cX9_most "LessonCards" (some .int) "most" 3 0 0 0 0) {M : mm_M} {v0 : Option Nat} {v1 : Int32} {v2 : Int32} {res : Int32 × mm_M} (hf : f_X9_most_23 M v0 v1 v2 = some res) (ko : (fun z => mm_q g 0 0 (some (mm_i z.1)) z.2) res) : mm_X g 0 0 M 23 [(0, mm_r v0), (1, mm_i v1), (2, mm_i v2)] [] := by
  unfold f_X9_most_23 at hf
  refine xr_aload_n 24 0 C dX9_most_23 rfl rfl rfl ?_
  refine xr_iload_n 25 1 C dX9_most_24 rfl rfl rfl ?_
  obtain ⟨M25, h25, hf⟩ := mm_bd_e hf
  refine xr_putI 28 C cf_X9_63 (fun h => by cases h) h25 dX9_most_25 rfl ?_
  refine xr_aload_n 29 0 C dX9_most_28 rfl rfl rfl ?_
  refine xr_iload_n 30 2 C dX9_most_29 rfl rfl rfl ?_
  obtain ⟨M30, h30, hf⟩ := mm_bd_e hf
  refine xr_putI 33 C cf_X9_66 (fun h => by cases h) h30 dX9_most_30 rfl ?_
  refine xr_iconst 34 C (v := 1) dX9_most_33 (by decide) rfl ?_
  obtain rfl := Option.some.inj hf
  exact xr_iret C ko ⟨(Nat.le_of_ble_eq_true rfl), (Nat.le_of_ble_eq_true rfl)⟩ dX9_most_34
noncomputable def f_X9_most_15 (M : mm_M) (v0 : Option Nat) (v1 : Int32) (v2 : Int32) : Option (Int32 × mm_M) :=
  if v2 ≤ 100 then f_X9_most_23 M v0 v1 v2 else f_X9_most_21 M
set_option maxRecDepth 20000 in
theorem w_X9_most_15 {g : mm_c} (C : mm_ok g cX9_most "LessonCards" (some .int) "most" 3 0 0 0 0) {M : mm_M} {v0 : Option Nat} {v1 : Int32} {v2 : Int32} {res : Int32 × mm_M} (hf : f_X9_most_15 M v0 v1 v2 = some res) (ko : (fun z => mm_q g 0 0 (some (mm_i z.1)) z.2) res) : mm_X g 0 0 M 15 [(0, mm_r v0), (1, mm_i v1), (2, mm_i v2)] [] := by
  unfold f_X9_most_15 at hf
  refine xr_iload_n 16 2 C dX9_most_15 rfl rfl rfl ?_
  refine xr_bipush 18 C (v := 100) dX9_most_16 (by decide) rfl ?_
  refine xr_icmp_le 23 21 C dX9_most_18 (by decide) rfl (fun hc => ?_) (fun hc => ?_)
  · replace hf := (if_pos hc).symm.trans hf
    exact w_X9_most_23 C hf ko
  · replace hf := (if_neg hc).symm.trans hf
    refine xr_sub [] (lv2 := []) rfl ?_
    exact w_X9_most_21 C hf ko
noncomputable def f_X9_most_11 (M : mm_M) (v0 : Option Nat) (v1 : Int32) (v2 : Int32) : Option (Int32 × mm_M) :=
  if v2 < 0 then f_X9_most_21 M else f_X9_most_15 M v0 v1 v2
set_option maxRecDepth 20000 in
theorem w_X9_most_11 {g : mm_c} (C : mm_ok g cX9_most "LessonCards" (some .int) "most" 3 0 0 0 0) {M : mm_M} {v0 : Option Nat} {v1 : Int32} {v2 : Int32} {res : Int32 × mm_M} (hf : f_X9_most_11 M v0 v1 v2 = some res) (ko : (fun z => mm_q g 0 0 (some (mm_i z.1)) z.2) res) : mm_X g 0 0 M 11 [(0, mm_r v0), (1, mm_i v1), (2, mm_i v2)] [] := by
  unfold f_X9_most_11 at hf
  refine xr_iload_n 12 2 C dX9_most_11 rfl rfl rfl ?_
  refine xr_if_lt 21 15 C dX9_most_12 (by decide) rfl (fun hc => ?_) (fun hc => ?_)
  · replace hf := (if_pos hc).symm.trans hf
    refine xr_sub [] (lv2 := []) rfl ?_
    exact w_X9_most_21 C hf ko
  · replace hf := (if_neg hc).symm.trans hf
    exact w_X9_most_15 C hf ko
noncomputable def f_X9_most_4 (M : mm_M) (v0 : Option Nat) (v1 : Int32) (v2 : Int32) : Option (Int32 × mm_M) :=
  if 400 < v1 then f_X9_most_21 M else f_X9_most_11 M v0 v1 v2
set_option maxRecDepth 20000 in
theorem w_X9_most_4 {g : mm_c} (C : mm_ok g cX9_most "LessonCards" (some .int) "most" 3 0 0 0 0) {M : mm_M} {v0 : Option Nat} {v1 : Int32} {v2 : Int32} {res : Int32 × mm_M} (hf : f_X9_most_4 M v0 v1 v2 = some res) (ko : (fun z => mm_q g 0 0 (some (mm_i z.1)) z.2) res) : mm_X g 0 0 M 4 [(0, mm_r v0), (1, mm_i v1), (2, mm_i v2)] [] := by
  unfold f_X9_most_4 at hf
  refine xr_iload_n 5 1 C dX9_most_4 rfl rfl rfl ?_
  refine xr_sipush 8 C (v := 400) dX9_most_5 (by decide) rfl ?_
  refine xr_icmp_gt 21 11 C dX9_most_8 (by decide) rfl (fun hc => ?_) (fun hc => ?_)
  · replace hf := (if_pos hc).symm.trans hf
    refine xr_sub [] (lv2 := []) rfl ?_
    exact w_X9_most_21 C hf ko
  · replace hf := (if_neg hc).symm.trans hf
    exact w_X9_most_11 C hf ko
noncomputable def f_X9_most_0 (M : mm_M) (v0 : Option Nat) (v1 : Int32) (v2 : Int32) : Option (Int32 × mm_M) :=
  if v1 < 0 then f_X9_most_21 M else f_X9_most_4 M v0 v1 v2
set_option maxRecDepth 20000 in
theorem w_X9_most_0 {g : mm_c} (C : mm_ok g cX9_most "LessonCards" (some .int) "most" 3 0 0 0 0) {M : mm_M} {v0 : Option Nat} {v1 : Int32} {v2 : Int32} {res : Int32 × mm_M} (hf : f_X9_most_0 M v0 v1 v2 = some res) (ko : (fun z => mm_q g 0 0 (some (mm_i z.1)) z.2) res) : mm_X g 0 0 M 0 [(0, mm_r v0), (1, mm_i v1), (2, mm_i v2)] [] := by
  unfold f_X9_most_0 at hf
  refine xr_iload_n 1 1 C dX9_most_0 rfl rfl rfl ?_
  refine xr_if_lt 21 4 C dX9_most_1 (by decide) rfl (fun hc => ?_) (fun hc => ?_)
  · replace hf := (if_pos hc).symm.trans hf
    refine xr_sub [] (lv2 := []) rfl ?_
    exact w_X9_most_21 C hf ko
  · replace hf := (if_neg hc).symm.trans hf
    exact w_X9_most_4 C hf ko
noncomputable def f_X9_most (M : mm_M) (v0 : Option Nat) (v1 : Int32) (v2 : Int32) : Option (Int32 × mm_M) := f_X9_most_0 M v0 v1 v2
theorem c_X9_most (l : Launch) (G : va_G) (cy : Nat → ClassId) {M : mm_M} {v0 : Option Nat} {v1 : Int32} {v2 : Int32} {r : Int32} {M1 : mm_M} (hf : f_X9_most M v0 v1 v2 = some (r, M1)) : mm_Met l yX9_most cX9_most 3 (some .int) 0 0 0 0 G cy [mm_r v0, mm_i v1, mm_i v2] M (some (mm_i r)) M1 :=
  mm_enter (by decide) (Nat.le_of_ble_eq_true rfl) (fun p e R s m args below meth c Q C hq => xr_sub [0, 1, 2] (lv2 := [(0, mm_r v0), (1, mm_i v1), (2, mm_i v2)]) rfl (w_X9_most_0 C hf hq))
noncomputable def f_X9_learnerAt_23 (M : mm_M) (s0 : Option Nat) : Option (Option Nat) :=
  some s0
set_option maxRecDepth 20000 in
theorem w_X9_learnerAt_23 {g : mm_c} (C : mm_ok g cX9_learnerAt "LessonCards" (some (.object "LessonCards$Learner")) "learnerAt" 2 0 0 0 0) {M : mm_M} {s0 : Option Nat} {res : Option Nat} (hf : f_X9_learnerAt_23 M s0 = some res) (ko : (fun z => mm_q g 0 0 (some (mm_r z)) M) res) : mm_X g 0 0 M 23 [] [mm_r s0] := by
  unfold f_X9_learnerAt_23 at hf
  obtain rfl := Option.some.inj hf
  exact xr_aret (by first | exact Or.inl ⟨_, rfl⟩ | exact Or.inr ⟨_, rfl⟩) C ko ⟨(Nat.le_of_ble_eq_true rfl), (Nat.le_of_ble_eq_true rfl)⟩ dX9_learnerAt_23
noncomputable def f_X9_learnerAt_13 (M : mm_M) : Option (Option Nat) :=
  f_X9_learnerAt_23 M none
set_option maxRecDepth 20000 in
theorem w_X9_learnerAt_13 {g : mm_c} (C : mm_ok g cX9_learnerAt "LessonCards" (some (.object "LessonCards$Learner")) "learnerAt" 2 0 0 0 0) {M : mm_M} {res : Option Nat} (hf : f_X9_learnerAt_13 M = some res) (ko : (fun z => mm_q g 0 0 (some (mm_r z)) M) res) : mm_X g 0 0 M 13 [] [] := by
  unfold f_X9_learnerAt_13 at hf
  refine xr_null 14 C dX9_learnerAt_13 rfl ?_
  refine xr_goto 23 C dX9_learnerAt_14 (by decide) ?_
  exact w_X9_learnerAt_23 C hf ko
noncomputable def f_X9_learnerAt_17 (M : mm_M) (v0 : Option Nat) (v1 : Int32) : Option (Option Nat) :=
  (mm_fR M v0 10 2).bind fun x18 =>
  (mm_aR M x18 15 v1).bind fun x22 =>
  f_X9_learnerAt_23 M x22
set_option maxRecDepth 20000 in
theorem w_X9_learnerAt_17 {g : mm_c} (C : mm_ok g cX9_learnerAt "LessonCards" (some (.object "LessonCards$Learner")) "learnerAt" 2 0 0 0 0) {M : mm_M} {v0 : Option Nat} {v1 : Int32} {res : Option Nat} (hf : f_X9_learnerAt_17 M v0 v1 = some res) (ko : (fun z => mm_q g 0 0 (some (mm_r z)) M) res) : mm_X g 0 0 M 17 [(0, mm_r v0), (1, mm_i v1)] [] := by
  unfold f_X9_learnerAt_17 at hf
  refine xr_aload_n 18 0 C dX9_learnerAt_17 rfl rfl rfl ?_
  obtain ⟨x18, h18, hf⟩ := mm_bd_e hf
  refine xr_getR 21 C cf_X9_25 rfl h18 dX9_learnerAt_18 rfl ?_
  refine xr_iload_n 22 1 C dX9_learnerAt_21 rfl rfl rfl ?_
  obtain ⟨x22, h22, hf⟩ := mm_bd_e hf
  refine xr_aldR 23 C 15 (by decide) h22 dX9_learnerAt_22 rfl ?_
  refine xr_sub [] (lv2 := []) rfl ?_
  exact w_X9_learnerAt_23 C hf ko
noncomputable def f_X9_learnerAt_4 (M : mm_M) (v0 : Option Nat) (v1 : Int32) : Option (Option Nat) :=
  (mm_fR M v0 10 2).bind fun x6 =>
  (mm_ln M x6).bind fun x9 =>
  if v1 < x9 then f_X9_learnerAt_17 M v0 v1 else f_X9_learnerAt_13 M
set_option maxRecDepth 20000 in
theorem w_X9_learnerAt_4 {g : mm_c} (C : mm_ok g cX9_learnerAt "LessonCards" (some (.object "LessonCards$Learner")) "learnerAt" 2 0 0 0 0) {M : mm_M} {v0 : Option Nat} {v1 : Int32} {res : Option Nat} (hf : f_X9_learnerAt_4 M v0 v1 = some res) (ko : (fun z => mm_q g 0 0 (some (mm_r z)) M) res) : mm_X g 0 0 M 4 [(0, mm_r v0), (1, mm_i v1)] [] := by
  unfold f_X9_learnerAt_4 at hf
  refine xr_iload_n 5 1 C dX9_learnerAt_4 rfl rfl rfl ?_
  refine xr_aload_n 6 0 C dX9_learnerAt_5 rfl rfl rfl ?_
  obtain ⟨x6, h6, hf⟩ := mm_bd_e hf
  refine xr_getR 9 C cf_X9_25 rfl h6 dX9_learnerAt_6 rfl ?_
  obtain ⟨x9, h9, hf⟩ := mm_bd_e hf
  refine xr_alen 10 C h9 dX9_learnerAt_9 rfl ?_
  refine xr_icmp_lt 17 13 C dX9_learnerAt_10 (by decide) rfl (fun hc => ?_) (fun hc => ?_)
  · replace hf := (if_pos hc).symm.trans hf
    exact w_X9_learnerAt_17 C hf ko
  · replace hf := (if_neg hc).symm.trans hf
    refine xr_sub [] (lv2 := []) rfl ?_
    exact w_X9_learnerAt_13 C hf ko
noncomputable def f_X9_learnerAt_0 (M : mm_M) (v0 : Option Nat) (v1 : Int32) : Option (Option Nat) :=
  if v1 < 0 then f_X9_learnerAt_13 M else f_X9_learnerAt_4 M v0 v1
set_option maxRecDepth 20000 in
theorem w_X9_learnerAt_0 {g : mm_c} (C : mm_ok g cX9_learnerAt "LessonCards" (some (.object "LessonCards$Learner")) "learnerAt" 2 0 0 0 0) {M : mm_M} {v0 : Option Nat} {v1 : Int32} {res : Option Nat} (hf : f_X9_learnerAt_0 M v0 v1 = some res) (ko : (fun z => mm_q g 0 0 (some (mm_r z)) M) res) : mm_X g 0 0 M 0 [(0, mm_r v0), (1, mm_i v1)] [] := by
  unfold f_X9_learnerAt_0 at hf
  refine xr_iload_n 1 1 C dX9_learnerAt_0 rfl rfl rfl ?_
  refine xr_if_lt 13 4 C dX9_learnerAt_1 (by decide) rfl (fun hc => ?_) (fun hc => ?_)
  · replace hf := (if_pos hc).symm.trans hf
    refine xr_sub [] (lv2 := []) rfl ?_
    exact w_X9_learnerAt_13 C hf ko
  · replace hf := (if_neg hc).symm.trans hf
    exact w_X9_learnerAt_4 C hf ko
noncomputable def f_X9_learnerAt (M : mm_M) (v0 : Option Nat) (v1 : Int32) : Option (Option Nat) := f_X9_learnerAt_0 M v0 v1
theorem c_X9_learnerAt (l : Launch) (G : va_G) (cy : Nat → ClassId) {M : mm_M} {v0 : Option Nat} {v1 : Int32} {r : Option Nat} (hf : f_X9_learnerAt M v0 v1 = some r) : mm_Met l yX9_learnerAt cX9_learnerAt 2 (some (.object "LessonCards$Learner")) 0 0 0 0 G cy [mm_r v0, mm_i v1] M (some (mm_r r)) M :=
  mm_enter (by decide) (Nat.le_of_ble_eq_true rfl) (fun p e R s m args below meth c Q C hq => xr_sub [0, 1] (lv2 := [(0, mm_r v0), (1, mm_i v1)]) rfl (w_X9_learnerAt_0 C hf hq))
noncomputable def f_X9_day_33 (M : mm_M) : Option (Int32 × mm_M) :=
  some ((-1), M)
set_option maxRecDepth 20000 in
theorem w_X9_day_33 {g : mm_c} (C : mm_ok g cX9_day "LessonCards" (some .int) "day" 4 4 86 0 0) {M : mm_M} {res : Int32 × mm_M} (hf : f_X9_day_33 M = some res) (ko : (fun z => mm_q g 0 0 (some (mm_i z.1)) z.2) res) : mm_X g 0 0 M 33 [] [] := by
  unfold f_X9_day_33 at hf
  refine xr_iconst 34 C (v := (-1)) dX9_day_33 (by decide) rfl ?_
  obtain rfl := Option.some.inj hf
  exact xr_iret C ko ⟨(Nat.le_of_ble_eq_true rfl), (Nat.le_of_ble_eq_true rfl)⟩ dX9_day_34
noncomputable def f_X9_day_35 (M : mm_M) (v2 : Int32) (v3 : Option Nat) : Option (Int32 × mm_M) :=
  (mm_fI M v3 7 3).bind fun x37 =>
  (mm_rc M v3 7).bind fun u42 =>
  (f_X6_beginDay M v3 (x37 + v2)).bind fun M42 =>
  (mm_fI M42 v3 7 3).bind fun x46 =>
  some (x46, M42)
set_option maxRecDepth 20000 in
theorem w_X9_day_35 {g : mm_c} (C : mm_ok g cX9_day "LessonCards" (some .int) "day" 4 4 86 0 0) {M : mm_M} {v2 : Int32} {v3 : Option Nat} {res : Int32 × mm_M} (hf : f_X9_day_35 M v2 v3 = some res) (ko : (fun z => mm_q g 0 0 (some (mm_i z.1)) z.2) res) : mm_X g 0 0 M 35 [(2, mm_i v2), (3, mm_r v3)] [] := by
  unfold f_X9_day_35 at hf
  refine xr_aload_n 36 1 C dX9_day_35 rfl rfl rfl ?_
  refine xr_aload_n 37 1 C dX9_day_36 rfl rfl rfl ?_
  obtain ⟨x37, h37, hf⟩ := mm_bd_e hf
  refine xr_getI 40 C cf_X9_108 rfl h37 dX9_day_37 rfl ?_
  refine xr_iload_n 41 0 C dX9_day_40 rfl rfl rfl ?_
  refine xr_iadd 42 C dX9_day_41 rfl ?_
  obtain ⟨u42, g42, hf⟩ := mm_bd_e hf
  obtain ⟨M42, h42, hf⟩ := mm_bd_e hf
  refine xr_callV 45 C [mm_i (x37 + v2)] cm_X9_111 (fun l G cy => c_X6_beginDay l G cy h42) g42 rfl rfl ⟨⟨Nat.le_of_ble_eq_true rfl, Nat.le_of_ble_eq_true rfl⟩, (Nat.le_of_ble_eq_true rfl), (Nat.le_of_ble_eq_true rfl)⟩ (Nat.le_of_ble_eq_true rfl) dX9_day_42 rfl ?_
  refine xr_aload_n 46 1 C dX9_day_45 rfl rfl rfl ?_
  obtain ⟨x46, h46, hf⟩ := mm_bd_e hf
  refine xr_getI 49 C cf_X9_108 rfl h46 dX9_day_46 rfl ?_
  obtain rfl := Option.some.inj hf
  exact xr_iret C ko ⟨(Nat.le_of_ble_eq_true rfl), (Nat.le_of_ble_eq_true rfl)⟩ dX9_day_49
noncomputable def f_X9_day_22 (M : mm_M) (v2 : Int32) (v3 : Option Nat) : Option (Int32 × mm_M) :=
  (mm_fI M v3 7 3).bind fun x23 =>
  if (x23 + v2) ≤ 100000 then f_X9_day_35 M v2 v3 else f_X9_day_33 M
set_option maxRecDepth 20000 in
theorem w_X9_day_22 {g : mm_c} (C : mm_ok g cX9_day "LessonCards" (some .int) "day" 4 4 86 0 0) {M : mm_M} {v2 : Int32} {v3 : Option Nat} {res : Int32 × mm_M} (hf : f_X9_day_22 M v2 v3 = some res) (ko : (fun z => mm_q g 0 0 (some (mm_i z.1)) z.2) res) : mm_X g 0 0 M 22 [(2, mm_i v2), (3, mm_r v3)] [] := by
  unfold f_X9_day_22 at hf
  refine xr_aload_n 23 1 C dX9_day_22 rfl rfl rfl ?_
  obtain ⟨x23, h23, hf⟩ := mm_bd_e hf
  refine xr_getI 26 C cf_X9_108 rfl h23 dX9_day_23 rfl ?_
  refine xr_iload_n 27 0 C dX9_day_26 rfl rfl rfl ?_
  refine xr_iadd 28 C dX9_day_27 rfl ?_
  refine xr_ldc 30 C wd_435 dX9_day_28 rfl ?_
  refine xr_icmp_le 35 33 C dX9_day_30 (by decide) rfl (fun hc => ?_) (fun hc => ?_)
  · replace hf := (if_pos hc).symm.trans hf
    exact w_X9_day_35 C hf ko
  · replace hf := (if_neg hc).symm.trans hf
    refine xr_sub [] (lv2 := []) rfl ?_
    exact w_X9_day_33 C hf ko
noncomputable def f_X9_day_15 (M : mm_M) (v2 : Int32) (v3 : Option Nat) : Option (Int32 × mm_M) :=
  if 1000 < v2 then f_X9_day_33 M else f_X9_day_22 M v2 v3
set_option maxRecDepth 20000 in
theorem w_X9_day_15 {g : mm_c} (C : mm_ok g cX9_day "LessonCards" (some .int) "day" 4 4 86 0 0) {M : mm_M} {v2 : Int32} {v3 : Option Nat} {res : Int32 × mm_M} (hf : f_X9_day_15 M v2 v3 = some res) (ko : (fun z => mm_q g 0 0 (some (mm_i z.1)) z.2) res) : mm_X g 0 0 M 15 [(2, mm_i v2), (3, mm_r v3)] [] := by
  unfold f_X9_day_15 at hf
  refine xr_iload_n 16 0 C dX9_day_15 rfl rfl rfl ?_
  refine xr_sipush 19 C (v := 1000) dX9_day_16 (by decide) rfl ?_
  refine xr_icmp_gt 33 22 C dX9_day_19 (by decide) rfl (fun hc => ?_) (fun hc => ?_)
  · replace hf := (if_pos hc).symm.trans hf
    refine xr_sub [] (lv2 := []) rfl ?_
    exact w_X9_day_33 C hf ko
  · replace hf := (if_neg hc).symm.trans hf
    exact w_X9_day_22 C hf ko
noncomputable def f_X9_day_10 (M : mm_M) (v2 : Int32) (v3 : Option Nat) : Option (Int32 × mm_M) :=
  if v2 < 1 then f_X9_day_33 M else f_X9_day_15 M v2 v3
set_option maxRecDepth 20000 in
theorem w_X9_day_10 {g : mm_c} (C : mm_ok g cX9_day "LessonCards" (some .int) "day" 4 4 86 0 0) {M : mm_M} {v2 : Int32} {v3 : Option Nat} {res : Int32 × mm_M} (hf : f_X9_day_10 M v2 v3 = some res) (ko : (fun z => mm_q g 0 0 (some (mm_i z.1)) z.2) res) : mm_X g 0 0 M 10 [(2, mm_i v2), (3, mm_r v3)] [] := by
  unfold f_X9_day_10 at hf
  refine xr_iload_n 11 0 C dX9_day_10 rfl rfl rfl ?_
  refine xr_iconst 12 C (v := 1) dX9_day_11 (by decide) rfl ?_
  refine xr_icmp_lt 33 15 C dX9_day_12 (by decide) rfl (fun hc => ?_) (fun hc => ?_)
  · replace hf := (if_pos hc).symm.trans hf
    refine xr_sub [] (lv2 := []) rfl ?_
    exact w_X9_day_33 C hf ko
  · replace hf := (if_neg hc).symm.trans hf
    exact w_X9_day_15 C hf ko
noncomputable def f_X9_day_0 (M : mm_M) (v0 : Option Nat) (v1 : Int32) (v2 : Int32) : Option (Int32 × mm_M) :=
  (mm_rc M v0 10).bind fun u2 =>
  (f_X9_learnerAt M v0 v1).bind fun x2 =>
  if x2 = none then f_X9_day_33 M else f_X9_day_10 M v2 x2
set_option maxRecDepth 20000 in
theorem w_X9_day_0 {g : mm_c} (C : mm_ok g cX9_day "LessonCards" (some .int) "day" 4 4 86 0 0) {M : mm_M} {v0 : Option Nat} {v1 : Int32} {v2 : Int32} {res : Int32 × mm_M} (hf : f_X9_day_0 M v0 v1 v2 = some res) (ko : (fun z => mm_q g 0 0 (some (mm_i z.1)) z.2) res) : mm_X g 0 0 M 0 [(0, mm_r v0), (1, mm_i v1), (2, mm_i v2)] [] := by
  unfold f_X9_day_0 at hf
  refine xr_aload_n 1 0 C dX9_day_0 rfl rfl rfl ?_
  refine xr_iload_n 2 1 C dX9_day_1 rfl rfl rfl ?_
  obtain ⟨u2, g2, hf⟩ := mm_bd_e hf
  obtain ⟨x2, h2, hf⟩ := mm_bd_e hf
  refine xr_callV 5 C [mm_i v1] cm_X9_104 (fun l G cy => c_X9_learnerAt l G cy h2) g2 rfl rfl ⟨⟨Nat.le_of_ble_eq_true rfl, Nat.le_of_ble_eq_true rfl⟩, (Nat.le_of_ble_eq_true rfl), (Nat.le_of_ble_eq_true rfl)⟩ (Nat.le_of_ble_eq_true rfl) dX9_day_2 rfl ?_
  refine xr_astore_n 6 C dX9_day_5 rfl (by decide) rfl [(3, mm_r x2), (0, mm_r v0), (1, mm_i v1), (2, mm_i v2)] rfl ?_
  refine xr_aload_n 7 0 C dX9_day_6 rfl rfl rfl ?_
  refine xr_ifnull 33 10 C dX9_day_7 (by decide) rfl (fun hc => ?_) (fun hc => ?_)
  · replace hf := (if_pos hc).symm.trans hf
    refine xr_sub [] (lv2 := []) rfl ?_
    exact w_X9_day_33 C hf ko
  · replace hf := (if_neg hc).symm.trans hf
    refine xr_sub [3, 0] (lv2 := [(2, mm_i v2), (3, mm_r x2)]) rfl ?_
    exact w_X9_day_10 C hf ko
noncomputable def f_X9_day (M : mm_M) (v0 : Option Nat) (v1 : Int32) (v2 : Int32) : Option (Int32 × mm_M) := f_X9_day_0 M v0 v1 v2
theorem c_X9_day (l : Launch) (G : va_G) (cy : Nat → ClassId) {M : mm_M} {v0 : Option Nat} {v1 : Int32} {v2 : Int32} {r : Int32} {M1 : mm_M} (hf : f_X9_day M v0 v1 v2 = some (r, M1)) : mm_Met l yX9_day cX9_day 4 (some .int) 4 86 0 0 G cy [mm_r v0, mm_i v1, mm_i v2] M (some (mm_i r)) M1 :=
  mm_enter (by decide) (Nat.le_of_ble_eq_true rfl) (fun p e R s m args below meth c Q C hq => xr_sub [0, 1, 2] (lv2 := [(0, mm_r v0), (1, mm_i v1), (2, mm_i v2)]) rfl (w_X9_day_0 C hf hq))
noncomputable def f_X9_start_10 (M : mm_M) : Option (Int32 × mm_M) :=
  some ((-1), M)
set_option maxRecDepth 20000 in
theorem w_X9_start_10 {g : mm_c} (C : mm_ok g cX9_start "LessonCards" (some .int) "start" 3 8 177 0 0) {M : mm_M} {res : Int32 × mm_M} (hf : f_X9_start_10 M = some res) (ko : (fun z => mm_q g 0 0 (some (mm_i z.1)) z.2) res) : mm_X g 0 0 M 10 [] [] := by
  unfold f_X9_start_10 at hf
  refine xr_iconst 11 C (v := (-1)) dX9_start_10 (by decide) rfl ?_
  obtain rfl := Option.some.inj hf
  exact xr_iret C ko ⟨(Nat.le_of_ble_eq_true rfl), (Nat.le_of_ble_eq_true rfl)⟩ dX9_start_11
noncomputable def f_X9_start_19 (M : mm_M) : Option (Int32 × mm_M) :=
  some ((-5), M)
set_option maxRecDepth 20000 in
theorem w_X9_start_19 {g : mm_c} (C : mm_ok g cX9_start "LessonCards" (some .int) "start" 3 8 177 0 0) {M : mm_M} {res : Int32 × mm_M} (hf : f_X9_start_19 M = some res) (ko : (fun z => mm_q g 0 0 (some (mm_i z.1)) z.2) res) : mm_X g 0 0 M 19 [] [] := by
  unfold f_X9_start_19 at hf
  refine xr_bipush 21 C (v := (-5)) dX9_start_19 (by decide) rfl ?_
  obtain rfl := Option.some.inj hf
  exact xr_iret C ko ⟨(Nat.le_of_ble_eq_true rfl), (Nat.le_of_ble_eq_true rfl)⟩ dX9_start_21
noncomputable def f_X9_start_22 (M : mm_M) (v0 : Option Nat) (v2 : Option Nat) : Option (Int32 × mm_M) :=
  (mm_fI M v0 10 9).bind fun x24 =>
  (mm_fR M v0 10 0).bind fun x28 =>
  (mm_rc M v2 7).bind fun u31 =>
  (f_X6_askDue M v2 x24 x28).bind fun M31 =>
  (mm_fI M31 v0 10 10).bind fun x36 =>
  (mm_fR M31 v0 10 1).bind fun x40 =>
  (mm_fR M31 v0 10 0).bind fun x44 =>
  (mm_rc M31 v2 7).bind fun u47 =>
  (f_X6_askFresh M31 v2 x36 x40 x44).bind fun M47 =>
  (mm_fI M47 v2 7 2).bind fun x51 =>
  some (x51, M47)
set_option maxRecDepth 20000 in
theorem w_X9_start_22 {g : mm_c} (C : mm_ok g cX9_start "LessonCards" (some .int) "start" 3 8 177 0 0) {M : mm_M} {v0 : Option Nat} {v2 : Option Nat} {res : Int32 × mm_M} (hf : f_X9_start_22 M v0 v2 = some res) (ko : (fun z => mm_q g 0 0 (some (mm_i z.1)) z.2) res) : mm_X g 0 0 M 22 [(0, mm_r v0), (2, mm_r v2)] [] := by
  unfold f_X9_start_22 at hf
  refine xr_aload_n 23 1 C dX9_start_22 rfl rfl rfl ?_
  refine xr_aload_n 24 0 C dX9_start_23 rfl rfl rfl ?_
  obtain ⟨x24, h24, hf⟩ := mm_bd_e hf
  refine xr_getI 27 C cf_X9_63 rfl h24 dX9_start_24 rfl ?_
  refine xr_aload_n 28 0 C dX9_start_27 rfl rfl rfl ?_
  obtain ⟨x28, h28, hf⟩ := mm_bd_e hf
  refine xr_getR 31 C cf_X9_12 rfl h28 dX9_start_28 rfl ?_
  obtain ⟨u31, g31, hf⟩ := mm_bd_e hf
  obtain ⟨M31, h31, hf⟩ := mm_bd_e hf
  refine xr_callV 34 C [mm_i x24, mm_r x28] cm_X9_117 (fun l G cy => c_X6_askDue l G cy h31) g31 rfl rfl ⟨⟨Nat.le_of_ble_eq_true rfl, Nat.le_of_ble_eq_true rfl⟩, (Nat.le_of_ble_eq_true rfl), (Nat.le_of_ble_eq_true rfl)⟩ (Nat.le_of_ble_eq_true rfl) dX9_start_31 rfl ?_
  refine xr_aload_n 35 1 C dX9_start_34 rfl rfl rfl ?_
  refine xr_aload_n 36 0 C dX9_start_35 rfl rfl rfl ?_
  obtain ⟨x36, h36, hf⟩ := mm_bd_e hf
  refine xr_getI 39 C cf_X9_66 rfl h36 dX9_start_36 rfl ?_
  refine xr_aload_n 40 0 C dX9_start_39 rfl rfl rfl ?_
  obtain ⟨x40, h40, hf⟩ := mm_bd_e hf
  refine xr_getR 43 C cf_X9_19 rfl h40 dX9_start_40 rfl ?_
  refine xr_aload_n 44 0 C dX9_start_43 rfl rfl rfl ?_
  obtain ⟨x44, h44, hf⟩ := mm_bd_e hf
  refine xr_getR 47 C cf_X9_12 rfl h44 dX9_start_44 rfl ?_
  obtain ⟨u47, g47, hf⟩ := mm_bd_e hf
  obtain ⟨M47, h47, hf⟩ := mm_bd_e hf
  refine xr_callV 50 C [mm_i x36, mm_r x40, mm_r x44] cm_X9_121 (fun l G cy => c_X6_askFresh l G cy h47) g47 rfl rfl ⟨⟨Nat.le_of_ble_eq_true rfl, Nat.le_of_ble_eq_true rfl⟩, (Nat.le_of_ble_eq_true rfl), (Nat.le_of_ble_eq_true rfl)⟩ (Nat.le_of_ble_eq_true rfl) dX9_start_47 rfl ?_
  refine xr_aload_n 51 1 C dX9_start_50 rfl rfl rfl ?_
  obtain ⟨x51, h51, hf⟩ := mm_bd_e hf
  refine xr_getI 54 C cf_X9_114 rfl h51 dX9_start_51 rfl ?_
  obtain rfl := Option.some.inj hf
  exact xr_iret C ko ⟨(Nat.le_of_ble_eq_true rfl), (Nat.le_of_ble_eq_true rfl)⟩ dX9_start_54
noncomputable def f_X9_start_12 (M : mm_M) (v0 : Option Nat) (v2 : Option Nat) : Option (Int32 × mm_M) :=
  (mm_fI M v2 7 2).bind fun x13 =>
  if x13 ≤ 0 then f_X9_start_22 M v0 v2 else f_X9_start_19 M
set_option maxRecDepth 20000 in
theorem w_X9_start_12 {g : mm_c} (C : mm_ok g cX9_start "LessonCards" (some .int) "start" 3 8 177 0 0) {M : mm_M} {v0 : Option Nat} {v2 : Option Nat} {res : Int32 × mm_M} (hf : f_X9_start_12 M v0 v2 = some res) (ko : (fun z => mm_q g 0 0 (some (mm_i z.1)) z.2) res) : mm_X g 0 0 M 12 [(0, mm_r v0), (2, mm_r v2)] [] := by
  unfold f_X9_start_12 at hf
  refine xr_aload_n 13 1 C dX9_start_12 rfl rfl rfl ?_
  obtain ⟨x13, h13, hf⟩ := mm_bd_e hf
  refine xr_getI 16 C cf_X9_114 rfl h13 dX9_start_13 rfl ?_
  refine xr_if_le 22 19 C dX9_start_16 (by decide) rfl (fun hc => ?_) (fun hc => ?_)
  · replace hf := (if_pos hc).symm.trans hf
    exact w_X9_start_22 C hf ko
  · replace hf := (if_neg hc).symm.trans hf
    refine xr_sub [] (lv2 := []) rfl ?_
    exact w_X9_start_19 C hf ko
noncomputable def f_X9_start_0 (M : mm_M) (v0 : Option Nat) (v1 : Int32) : Option (Int32 × mm_M) :=
  (mm_rc M v0 10).bind fun u2 =>
  (f_X9_learnerAt M v0 v1).bind fun x2 =>
  if x2 = none then f_X9_start_10 M else f_X9_start_12 M v0 x2
set_option maxRecDepth 20000 in
theorem w_X9_start_0 {g : mm_c} (C : mm_ok g cX9_start "LessonCards" (some .int) "start" 3 8 177 0 0) {M : mm_M} {v0 : Option Nat} {v1 : Int32} {res : Int32 × mm_M} (hf : f_X9_start_0 M v0 v1 = some res) (ko : (fun z => mm_q g 0 0 (some (mm_i z.1)) z.2) res) : mm_X g 0 0 M 0 [(0, mm_r v0), (1, mm_i v1)] [] := by
  unfold f_X9_start_0 at hf
  refine xr_aload_n 1 0 C dX9_start_0 rfl rfl rfl ?_
  refine xr_iload_n 2 1 C dX9_start_1 rfl rfl rfl ?_
  obtain ⟨u2, g2, hf⟩ := mm_bd_e hf
  obtain ⟨x2, h2, hf⟩ := mm_bd_e hf
  refine xr_callV 5 C [mm_i v1] cm_X9_104 (fun l G cy => c_X9_learnerAt l G cy h2) g2 rfl rfl ⟨⟨Nat.le_of_ble_eq_true rfl, Nat.le_of_ble_eq_true rfl⟩, (Nat.le_of_ble_eq_true rfl), (Nat.le_of_ble_eq_true rfl)⟩ (Nat.le_of_ble_eq_true rfl) dX9_start_2 rfl ?_
  refine xr_astore_n 6 C dX9_start_5 rfl (by decide) rfl [(2, mm_r x2), (0, mm_r v0), (1, mm_i v1)] rfl ?_
  refine xr_aload_n 7 0 C dX9_start_6 rfl rfl rfl ?_
  refine xr_ifnonnull 12 10 C dX9_start_7 (by decide) rfl (fun hc => ?_) (fun hc => ?_)
  · replace hf := (if_neg hc).symm.trans hf
    refine xr_sub [1, 0] (lv2 := [(0, mm_r v0), (2, mm_r x2)]) rfl ?_
    exact w_X9_start_12 C hf ko
  · replace hf := (if_pos hc).symm.trans hf
    refine xr_sub [] (lv2 := []) rfl ?_
    exact w_X9_start_10 C hf ko
noncomputable def f_X9_start (M : mm_M) (v0 : Option Nat) (v1 : Int32) : Option (Int32 × mm_M) := f_X9_start_0 M v0 v1
theorem c_X9_start (l : Launch) (G : va_G) (cy : Nat → ClassId) {M : mm_M} {v0 : Option Nat} {v1 : Int32} {r : Int32} {M1 : mm_M} (hf : f_X9_start M v0 v1 = some (r, M1)) : mm_Met l yX9_start cX9_start 3 (some .int) 8 177 0 0 G cy [mm_r v0, mm_i v1] M (some (mm_i r)) M1 :=
  mm_enter (by decide) (Nat.le_of_ble_eq_true rfl) (fun p e R s m args below meth c Q C hq => xr_sub [0, 1] (lv2 := [(0, mm_r v0), (1, mm_i v1)]) rfl (w_X9_start_0 C hf hq))
noncomputable def f_X9_next_10 (M : mm_M) : Option (Int32) :=
  some (-1)
set_option maxRecDepth 20000 in
theorem w_X9_next_10 {g : mm_c} (C : mm_ok g cX9_next "LessonCards" (some .int) "next" 3 1 21 0 0) {M : mm_M} {res : Int32} (hf : f_X9_next_10 M = some res) (ko : (fun z => mm_q g 0 0 (some (mm_i z)) M) res) : mm_X g 0 0 M 10 [] [] := by
  unfold f_X9_next_10 at hf
  refine xr_iconst 11 C (v := (-1)) dX9_next_10 (by decide) rfl ?_
  obtain rfl := Option.some.inj hf
  exact xr_iret C ko ⟨(Nat.le_of_ble_eq_true rfl), (Nat.le_of_ble_eq_true rfl)⟩ dX9_next_11
noncomputable def f_X9_next_28 (M : mm_M) (s0 : Int32) : Option (Int32) :=
  some s0
set_option maxRecDepth 20000 in
theorem w_X9_next_28 {g : mm_c} (C : mm_ok g cX9_next "LessonCards" (some .int) "next" 3 1 21 0 0) {M : mm_M} {s0 : Int32} {res : Int32} (hf : f_X9_next_28 M s0 = some res) (ko : (fun z => mm_q g 0 0 (some (mm_i z)) M) res) : mm_X g 0 0 M 28 [] [mm_i s0] := by
  unfold f_X9_next_28 at hf
  obtain rfl := Option.some.inj hf
  exact xr_iret C ko ⟨(Nat.le_of_ble_eq_true rfl), (Nat.le_of_ble_eq_true rfl)⟩ dX9_next_28
noncomputable def f_X9_next_19 (M : mm_M) : Option (Int32) :=
  f_X9_next_28 M (-4)
set_option maxRecDepth 20000 in
theorem w_X9_next_19 {g : mm_c} (C : mm_ok g cX9_next "LessonCards" (some .int) "next" 3 1 21 0 0) {M : mm_M} {res : Int32} (hf : f_X9_next_19 M = some res) (ko : (fun z => mm_q g 0 0 (some (mm_i z)) M) res) : mm_X g 0 0 M 19 [] [] := by
  unfold f_X9_next_19 at hf
  refine xr_bipush 21 C (v := (-4)) dX9_next_19 (by decide) rfl ?_
  refine xr_goto 28 C dX9_next_21 (by decide) ?_
  exact w_X9_next_28 C hf ko
noncomputable def f_X9_next_24 (M : mm_M) (v2 : Option Nat) : Option (Int32) :=
  (mm_rc M v2 7).bind fun u25 =>
  (f_X6_first M v2).bind fun x25 =>
  f_X9_next_28 M x25
set_option maxRecDepth 20000 in
theorem w_X9_next_24 {g : mm_c} (C : mm_ok g cX9_next "LessonCards" (some .int) "next" 3 1 21 0 0) {M : mm_M} {v2 : Option Nat} {res : Int32} (hf : f_X9_next_24 M v2 = some res) (ko : (fun z => mm_q g 0 0 (some (mm_i z)) M) res) : mm_X g 0 0 M 24 [(2, mm_r v2)] [] := by
  unfold f_X9_next_24 at hf
  refine xr_aload_n 25 0 C dX9_next_24 rfl rfl rfl ?_
  obtain ⟨u25, g25, hf⟩ := mm_bd_e hf
  obtain ⟨x25, h25, hf⟩ := mm_bd_e hf
  refine xr_callV 28 C [] cm_X9_125 (fun l G cy => c_X6_first l G cy h25) g25 rfl rfl ⟨⟨Nat.le_of_ble_eq_true rfl, Nat.le_of_ble_eq_true rfl⟩, (Nat.le_of_ble_eq_true rfl), (Nat.le_of_ble_eq_true rfl)⟩ (Nat.le_of_ble_eq_true rfl) dX9_next_25 rfl ?_
  refine xr_sub [] (lv2 := []) rfl ?_
  exact w_X9_next_28 C hf ko
noncomputable def f_X9_next_12 (M : mm_M) (v2 : Option Nat) : Option (Int32) :=
  (mm_fI M v2 7 2).bind fun x13 =>
  if x13 = 0 then f_X9_next_19 M else f_X9_next_24 M v2
set_option maxRecDepth 20000 in
theorem w_X9_next_12 {g : mm_c} (C : mm_ok g cX9_next "LessonCards" (some .int) "next" 3 1 21 0 0) {M : mm_M} {v2 : Option Nat} {res : Int32} (hf : f_X9_next_12 M v2 = some res) (ko : (fun z => mm_q g 0 0 (some (mm_i z)) M) res) : mm_X g 0 0 M 12 [(2, mm_r v2)] [] := by
  unfold f_X9_next_12 at hf
  refine xr_aload_n 13 0 C dX9_next_12 rfl rfl rfl ?_
  obtain ⟨x13, h13, hf⟩ := mm_bd_e hf
  refine xr_getI 16 C cf_X9_114 rfl h13 dX9_next_13 rfl ?_
  refine xr_if_ne 24 19 C dX9_next_16 (by decide) rfl (fun hc => ?_) (fun hc => ?_)
  · replace hf := (if_neg hc).symm.trans hf
    exact w_X9_next_24 C hf ko
  · replace hf := (if_pos hc).symm.trans hf
    refine xr_sub [] (lv2 := []) rfl ?_
    exact w_X9_next_19 C hf ko
noncomputable def f_X9_next_0 (M : mm_M) (v0 : Option Nat) (v1 : Int32) : Option (Int32) :=
  (mm_rc M v0 10).bind fun u2 =>
  (f_X9_learnerAt M v0 v1).bind fun x2 =>
  if x2 = none then f_X9_next_10 M else f_X9_next_12 M x2
set_option maxRecDepth 20000 in
theorem w_X9_next_0 {g : mm_c} (C : mm_ok g cX9_next "LessonCards" (some .int) "next" 3 1 21 0 0) {M : mm_M} {v0 : Option Nat} {v1 : Int32} {res : Int32} (hf : f_X9_next_0 M v0 v1 = some res) (ko : (fun z => mm_q g 0 0 (some (mm_i z)) M) res) : mm_X g 0 0 M 0 [(0, mm_r v0), (1, mm_i v1)] [] := by
  unfold f_X9_next_0 at hf
  refine xr_aload_n 1 0 C dX9_next_0 rfl rfl rfl ?_
  refine xr_iload_n 2 1 C dX9_next_1 rfl rfl rfl ?_
  obtain ⟨u2, g2, hf⟩ := mm_bd_e hf
  obtain ⟨x2, h2, hf⟩ := mm_bd_e hf
  refine xr_callV 5 C [mm_i v1] cm_X9_104 (fun l G cy => c_X9_learnerAt l G cy h2) g2 rfl rfl ⟨⟨Nat.le_of_ble_eq_true rfl, Nat.le_of_ble_eq_true rfl⟩, (Nat.le_of_ble_eq_true rfl), (Nat.le_of_ble_eq_true rfl)⟩ (Nat.le_of_ble_eq_true rfl) dX9_next_2 rfl ?_
  refine xr_astore_n 6 C dX9_next_5 rfl (by decide) rfl [(2, mm_r x2), (0, mm_r v0), (1, mm_i v1)] rfl ?_
  refine xr_aload_n 7 0 C dX9_next_6 rfl rfl rfl ?_
  refine xr_ifnonnull 12 10 C dX9_next_7 (by decide) rfl (fun hc => ?_) (fun hc => ?_)
  · replace hf := (if_neg hc).symm.trans hf
    refine xr_sub [0] (lv2 := [(2, mm_r x2)]) rfl ?_
    exact w_X9_next_12 C hf ko
  · replace hf := (if_pos hc).symm.trans hf
    refine xr_sub [] (lv2 := []) rfl ?_
    exact w_X9_next_10 C hf ko
noncomputable def f_X9_next (M : mm_M) (v0 : Option Nat) (v1 : Int32) : Option (Int32) := f_X9_next_0 M v0 v1
theorem c_X9_next (l : Launch) (G : va_G) (cy : Nat → ClassId) {M : mm_M} {v0 : Option Nat} {v1 : Int32} {r : Int32} (hf : f_X9_next M v0 v1 = some r) : mm_Met l yX9_next cX9_next 3 (some .int) 1 21 0 0 G cy [mm_r v0, mm_i v1] M (some (mm_i r)) M :=
  mm_enter (by decide) (Nat.le_of_ble_eq_true rfl) (fun p e R s m args below meth c Q C hq => xr_sub [0, 1] (lv2 := [(0, mm_r v0), (1, mm_i v1)]) rfl (w_X9_next_0 C hf hq))
noncomputable def f_X9_answer_17 (M : mm_M) : Option (Int32 × mm_M) :=
  some ((-1), M)
set_option maxRecDepth 20000 in
theorem w_X9_answer_17 {g : mm_c} (C : mm_ok g cX9_answer "LessonCards" (some .int) "answer" 7 8 172 3 1014) {M : mm_M} {res : Int32 × mm_M} (hf : f_X9_answer_17 M = some res) (ko : (fun z => mm_q g 3 1014 (some (mm_i z.1)) z.2) res) : mm_X g 0 0 M 17 [] [] := by
  unfold f_X9_answer_17 at hf
  refine xr_iconst 18 C (v := (-1)) dX9_answer_17 (by decide) rfl ?_
  obtain rfl := Option.some.inj hf
  exact xr_iret C ko ⟨(Nat.le_of_ble_eq_true rfl), (Nat.le_of_ble_eq_true rfl)⟩ dX9_answer_18
noncomputable def f_X9_answer_26 (M : mm_M) : Option (Int32 × mm_M) :=
  some ((-4), M)
set_option maxRecDepth 20000 in
theorem w_X9_answer_26 {g : mm_c} (C : mm_ok g cX9_answer "LessonCards" (some .int) "answer" 7 8 172 3 1014) {M : mm_M} {res : Int32 × mm_M} (hf : f_X9_answer_26 M = some res) (ko : (fun z => mm_q g 3 1014 (some (mm_i z.1)) z.2) res) : mm_X g 0 0 M 26 [] [] := by
  unfold f_X9_answer_26 at hf
  refine xr_bipush 28 C (v := (-4)) dX9_answer_26 (by decide) rfl ?_
  obtain rfl := Option.some.inj hf
  exact xr_iret C ko ⟨(Nat.le_of_ble_eq_true rfl), (Nat.le_of_ble_eq_true rfl)⟩ dX9_answer_28
noncomputable def f_X9_answer_42 (M : mm_M) : Option (Int32 × mm_M) :=
  some ((-2), M)
set_option maxRecDepth 20000 in
theorem w_X9_answer_42 {g : mm_c} (C : mm_ok g cX9_answer "LessonCards" (some .int) "answer" 7 8 172 3 1014) {M : mm_M} {res : Int32 × mm_M} (hf : f_X9_answer_42 M = some res) (ko : (fun z => mm_q g 3 1014 (some (mm_i z.1)) z.2) res) : mm_X g 0 0 M 42 [] [] := by
  unfold f_X9_answer_42 at hf
  refine xr_bipush 44 C (v := (-2)) dX9_answer_42 (by decide) rfl ?_
  obtain rfl := Option.some.inj hf
  exact xr_iret C ko ⟨(Nat.le_of_ble_eq_true rfl), (Nat.le_of_ble_eq_true rfl)⟩ dX9_answer_44
noncomputable def f_X9_answer_148 (M : mm_M) (v3 : Option Nat) : Option (Int32 × mm_M) :=
  (mm_fI M v3 7 2).bind fun x149 =>
  some (x149, M)
set_option maxRecDepth 20000 in
theorem w_X9_answer_148 {g : mm_c} (C : mm_ok g cX9_answer "LessonCards" (some .int) "answer" 7 8 172 3 1014) {M : mm_M} {v3 : Option Nat} {res : Int32 × mm_M} (hf : f_X9_answer_148 M v3 = some res) (ko : (fun z => mm_q g 3 1014 (some (mm_i z.1)) z.2) res) : mm_X g 3 1014 M 148 [(3, mm_r v3)] [] := by
  unfold f_X9_answer_148 at hf
  refine xr_aload_n 149 0 C dX9_answer_148 rfl rfl rfl ?_
  obtain ⟨x149, h149, hf⟩ := mm_bd_e hf
  refine xr_getI 152 C cf_X9_114 rfl h149 dX9_answer_149 rfl ?_
  obtain rfl := Option.some.inj hf
  exact xr_iret C ko ⟨(Nat.le_of_ble_eq_true rfl), (Nat.le_of_ble_eq_true rfl)⟩ dX9_answer_152
noncomputable def f_X9_answer_142 (M : mm_M) (v3 : Option Nat) (v4 : Int32) : Option (Int32 × mm_M) :=
  (mm_rc M v3 7).bind fun u145 =>
  (f_X6_append M v3 v4).bind fun M145 =>
  f_X9_answer_148 M145 v3
set_option maxRecDepth 20000 in
theorem w_X9_answer_142 {g : mm_c} (C : mm_ok g cX9_answer "LessonCards" (some .int) "answer" 7 8 172 3 1014) {M : mm_M} {v3 : Option Nat} {v4 : Int32} {res : Int32 × mm_M} (hf : f_X9_answer_142 M v3 v4 = some res) (ko : (fun z => mm_q g 3 1014 (some (mm_i z.1)) z.2) res) : mm_X g 3 1014 M 142 [(3, mm_r v3), (4, mm_i v4)] [] := by
  unfold f_X9_answer_142 at hf
  refine xr_aload_n 143 0 C dX9_answer_142 rfl rfl rfl ?_
  refine xr_iload 145 1 C dX9_answer_143 rfl rfl ?_
  obtain ⟨u145, g145, hf⟩ := mm_bd_e hf
  obtain ⟨M145, h145, hf⟩ := mm_bd_e hf
  refine xr_callV 148 C [mm_i v4] cm_X9_159 (fun l G cy => c_X6_append l G cy h145) g145 rfl rfl ⟨⟨Nat.le_of_ble_eq_true rfl, Nat.le_of_ble_eq_true rfl⟩, (Nat.le_of_ble_eq_true rfl), (Nat.le_of_ble_eq_true rfl)⟩ (Nat.le_of_ble_eq_true rfl) dX9_answer_145 rfl ?_
  refine xr_sub [0] (lv2 := [(3, mm_r v3)]) rfl ?_
  exact w_X9_answer_148 C hf ko
noncomputable def f_X9_answer_134 (M : mm_M) (v3 : Option Nat) (v4 : Int32) (v5 : Option Nat) : Option (Int32 × mm_M) :=
  (mm_rc M v5 9).bind fun u136 =>
  mm_b2 (f_X8_comesBack M v5) fun x136 M136 =>
  if x136 = 0 then f_X9_answer_148 M136 v3 else f_X9_answer_142 M136 v3 v4
set_option maxRecDepth 20000 in
theorem w_X9_answer_134 {g : mm_c} (C : mm_ok g cX9_answer "LessonCards" (some .int) "answer" 7 8 172 3 1014) {M : mm_M} {v3 : Option Nat} {v4 : Int32} {v5 : Option Nat} {res : Int32 × mm_M} (hf : f_X9_answer_134 M v3 v4 v5 = some res) (ko : (fun z => mm_q g 3 1014 (some (mm_i z.1)) z.2) res) : mm_X g 3 1014 M 134 [(3, mm_r v3), (4, mm_i v4), (5, mm_r v5)] [] := by
  unfold f_X9_answer_134 at hf
  refine xr_aload 136 2 C dX9_answer_134 rfl rfl ?_
  obtain ⟨u136, g136, hf⟩ := mm_bd_e hf
  obtain ⟨x136, M136, h136, hf⟩ := mm_b2_e hf
  refine xr_callV 139 C [] cm_X9_155 (fun l G cy => c_X8_comesBack l G cy h136) g136 rfl rfl ⟨⟨Nat.le_of_ble_eq_true rfl, Nat.le_of_ble_eq_true rfl⟩, (Nat.le_of_ble_eq_true rfl), (Nat.le_of_ble_eq_true rfl)⟩ (Nat.le_of_ble_eq_true rfl) dX9_answer_136 rfl ?_
  refine xr_if_eq 148 142 C dX9_answer_139 (by decide) rfl (fun hc => ?_) (fun hc => ?_)
  · replace hf := (if_pos hc).symm.trans hf
    refine xr_sub [0] (lv2 := [(3, mm_r v3)]) rfl ?_
    exact w_X9_answer_148 C hf ko
  · replace hf := (if_neg hc).symm.trans hf
    refine xr_sub [0, 1] (lv2 := [(3, mm_r v3), (4, mm_i v4)]) rfl ?_
    exact w_X9_answer_142 C hf ko
noncomputable def f_X9_answer_68 (M : mm_M) (v0 : Option Nat) (v1 : Int32) (v2 : Int32) (v3 : Option Nat) (v4 : Int32) (v5 : Option Nat) : Option (Int32 × mm_M) :=
  (mm_fR M v0 10 7).bind fun x69 =>
  (mm_aI M x69 12 v2).bind fun x73 =>
  (mm_fR M v0 10 4).bind fun x77 =>
  mm_le (mm_nw M (4, 0)) fun M80 =>
  (mm_fI M80 v3 7 3).bind fun x88 =>
  (mm_fI M80 v0 10 8).bind fun x93 =>
  (mm_rc M80 v5 9).bind fun u100 =>
  mm_b2 (f_X8_copy M80 v5) fun x100 M100 =>
  (f_X3_init M100 (mm_n M) v1 v4 x88 v2 x93 x73 x100).bind fun M103 =>
  (mm_rc M103 x77 0).bind fun u106 =>
  mm_b2 (f_Jx4a65c_add_9ea2d M103 x77 (some (mm_n M))) fun x106 M106 =>
  (mm_fI M106 v0 10 8).bind fun x113 =>
  (mm_fI M106 v3 7 3).bind fun x120 =>
  (mm_fR M106 v0 10 0).bind fun x124 =>
  (mm_rc M106 v5 9).bind fun u127 =>
  (f_X8_move M106 v5 x113 v2 x73 x120 x124).bind fun M127 =>
  if v2 = 0 then f_X9_answer_134 M127 v3 v4 v5 else f_X9_answer_148 M127 v3
set_option maxRecDepth 20000 in
theorem w_X9_answer_68 {g : mm_c} (C : mm_ok g cX9_answer "LessonCards" (some .int) "answer" 7 8 172 3 1014) {M : mm_M} {v0 : Option Nat} {v1 : Int32} {v2 : Int32} {v3 : Option Nat} {v4 : Int32} {v5 : Option Nat} {res : Int32 × mm_M} (hf : f_X9_answer_68 M v0 v1 v2 v3 v4 v5 = some res) (ko : (fun z => mm_q g 3 1014 (some (mm_i z.1)) z.2) res) : mm_X g 0 0 M 68 [(0, mm_r v0), (1, mm_i v1), (2, mm_i v2), (3, mm_r v3), (4, mm_i v4), (5, mm_r v5)] [] := by
  unfold f_X9_answer_68 at hf
  refine xr_aload_n 69 0 C dX9_answer_68 rfl rfl rfl ?_
  obtain ⟨x69, h69, hf⟩ := mm_bd_e hf
  refine xr_getR 72 C cf_X9_55 rfl h69 dX9_answer_69 rfl ?_
  refine xr_iload_n 73 2 C dX9_answer_72 rfl rfl rfl ?_
  obtain ⟨x73, h73, hf⟩ := mm_bd_e hf
  refine xr_aldI 74 C h73 dX9_answer_73 rfl ?_
  refine xr_istore 76 C dX9_answer_74 (by decide) rfl [(6, mm_i x73), (0, mm_r v0), (1, mm_i v1), (2, mm_i v2), (3, mm_r v3), (4, mm_i v4), (5, mm_r v5)] rfl ?_
  refine xr_aload_n 77 1 C dX9_answer_76 rfl rfl rfl ?_
  obtain ⟨x77, h77, hf⟩ := mm_bd_e hf
  refine xr_getR 80 C cf_X9_37 rfl h77 dX9_answer_77 rfl ?_
  obtain ⟨M80, h80, hf⟩ := mm_le_e hf
  refine xr_new 83 C (ci := 4) (Cn := RX3) (T := TX3) (N := 7) (ty := tyX3) rfl (by decide) in_X3 tyX3_ok nf_X3 wd_572 wd_573 wd_65 dX9_answer_80 ⟨(Nat.le_of_ble_eq_true rfl), (Nat.le_of_ble_eq_true rfl)⟩ rfl h80 ?_
  refine xr_dup 84 C dX9_answer_83 rfl rfl ?_
  refine xr_iload_n 85 2 C dX9_answer_84 rfl rfl rfl ?_
  refine xr_iload 87 5 C dX9_answer_85 rfl rfl ?_
  refine xr_aload_n 88 4 C dX9_answer_87 rfl rfl rfl ?_
  obtain ⟨x88, h88, hf⟩ := mm_bd_e hf
  refine xr_getI 91 C cf_X9_108 rfl h88 dX9_answer_88 rfl ?_
  refine xr_iload_n 92 3 C dX9_answer_91 rfl rfl rfl ?_
  refine xr_aload_n 93 1 C dX9_answer_92 rfl rfl rfl ?_
  obtain ⟨x93, h93, hf⟩ := mm_bd_e hf
  refine xr_getI 96 C cf_X9_59 rfl h93 dX9_answer_93 rfl ?_
  refine xr_iload 98 0 C dX9_answer_96 rfl rfl ?_
  refine xr_aload 100 6 C dX9_answer_98 rfl rfl ?_
  obtain ⟨u100, g100, hf⟩ := mm_bd_e hf
  obtain ⟨x100, M100, h100, hf⟩ := mm_b2_e hf
  refine xr_callW 103 C [] cm_X9_138 (fun l G cy => c_X8_copy l G cy h100) g100 wd_574 rfl rfl ⟨⟨Nat.le_of_ble_eq_true rfl, Nat.le_of_ble_eq_true rfl⟩, (Nat.le_of_ble_eq_true rfl), (Nat.le_of_ble_eq_true rfl)⟩ (Nat.le_of_ble_eq_true rfl) dX9_answer_100 rfl ?_
  obtain ⟨M103, h103, hf⟩ := mm_bd_e hf
  refine xr_callI 106 C [mm_i v1, mm_i v4, mm_i x88, mm_i v2, mm_i x93, mm_i x73, mm_r x100] cm_X9_144 (fun l G cy => c_X3_init l G cy h103) rfl rfl ⟨⟨Nat.le_of_ble_eq_true rfl, Nat.le_of_ble_eq_true rfl⟩, (Nat.le_of_ble_eq_true rfl), (Nat.le_of_ble_eq_true rfl)⟩ (Nat.le_of_ble_eq_true rfl) dX9_answer_103 rfl ?_
  obtain ⟨u106, g106, hf⟩ := mm_bd_e hf
  obtain ⟨x106, M106, h106, hf⟩ := mm_b2_e hf
  refine xr_callV 109 C [mm_r (some (mm_n M))] cm_X9_147 (fun l G cy => c_Jx4a65c_add_9ea2d l G cy h106) g106 rfl rfl ⟨⟨Nat.le_of_ble_eq_true rfl, Nat.le_of_ble_eq_true rfl⟩, (Nat.le_of_ble_eq_true rfl), (Nat.le_of_ble_eq_true rfl)⟩ (Nat.le_of_ble_eq_true rfl) dX9_answer_106 rfl ?_
  refine xr_pop 110 C dX9_answer_109 rfl rfl ?_
  refine xr_aload 112 6 C dX9_answer_110 rfl rfl ?_
  refine xr_aload_n 113 1 C dX9_answer_112 rfl rfl rfl ?_
  obtain ⟨x113, h113, hf⟩ := mm_bd_e hf
  refine xr_getI 116 C cf_X9_59 rfl h113 dX9_answer_113 rfl ?_
  refine xr_iload_n 117 3 C dX9_answer_116 rfl rfl rfl ?_
  refine xr_iload 119 0 C dX9_answer_117 rfl rfl ?_
  refine xr_aload_n 120 4 C dX9_answer_119 rfl rfl rfl ?_
  obtain ⟨x120, h120, hf⟩ := mm_bd_e hf
  refine xr_getI 123 C cf_X9_108 rfl h120 dX9_answer_120 rfl ?_
  refine xr_aload_n 124 1 C dX9_answer_123 rfl rfl rfl ?_
  obtain ⟨x124, h124, hf⟩ := mm_bd_e hf
  refine xr_getR 127 C cf_X9_12 rfl h124 dX9_answer_124 rfl ?_
  obtain ⟨u127, g127, hf⟩ := mm_bd_e hf
  obtain ⟨M127, h127, hf⟩ := mm_bd_e hf
  refine xr_callV 130 C [mm_i x113, mm_i v2, mm_i x73, mm_i x120, mm_r x124] cm_X9_151 (fun l G cy => c_X8_move l G cy h127) g127 rfl rfl ⟨⟨Nat.le_of_ble_eq_true rfl, Nat.le_of_ble_eq_true rfl⟩, (Nat.le_of_ble_eq_true rfl), (Nat.le_of_ble_eq_true rfl)⟩ (Nat.le_of_ble_eq_true rfl) dX9_answer_127 rfl ?_
  refine xr_iload_n 131 3 C dX9_answer_130 rfl rfl rfl ?_
  refine xr_if_ne 148 134 C dX9_answer_131 (by decide) rfl (fun hc => ?_) (fun hc => ?_)
  · replace hf := (if_neg hc).symm.trans hf
    refine xr_sub [4] (lv2 := [(3, mm_r v3)]) rfl ?_
    exact w_X9_answer_148 C hf ko
  · replace hf := (if_pos hc).symm.trans hf
    refine xr_sub [4, 5, 6] (lv2 := [(3, mm_r v3), (4, mm_i v4), (5, mm_r v5)]) rfl ?_
    exact w_X9_answer_134 C hf ko
noncomputable def f_X9_answer_45 (M : mm_M) (v0 : Option Nat) (v1 : Int32) (v2 : Int32) (v3 : Option Nat) : Option (Int32 × mm_M) :=
  (mm_rc M v3 7).bind fun u46 =>
  (f_X6_first M v3).bind fun x46 =>
  (mm_rc M v3 7).bind fun u54 =>
  (f_X6_memoryAt M v3 x46).bind fun x54 =>
  (mm_rc M v3 7).bind fun u60 =>
  (f_X6_dropFirst M v3).bind fun M60 =>
  if x54 = none then f_X9_answer_148 M60 v3 else f_X9_answer_68 M60 v0 v1 v2 v3 x46 x54
set_option maxRecDepth 20000 in
theorem w_X9_answer_45 {g : mm_c} (C : mm_ok g cX9_answer "LessonCards" (some .int) "answer" 7 8 172 3 1014) {M : mm_M} {v0 : Option Nat} {v1 : Int32} {v2 : Int32} {v3 : Option Nat} {res : Int32 × mm_M} (hf : f_X9_answer_45 M v0 v1 v2 v3 = some res) (ko : (fun z => mm_q g 3 1014 (some (mm_i z.1)) z.2) res) : mm_X g 0 0 M 45 [(0, mm_r v0), (1, mm_i v1), (2, mm_i v2), (3, mm_r v3)] [] := by
  unfold f_X9_answer_45 at hf
  refine xr_aload_n 46 3 C dX9_answer_45 rfl rfl rfl ?_
  obtain ⟨u46, g46, hf⟩ := mm_bd_e hf
  obtain ⟨x46, h46, hf⟩ := mm_bd_e hf
  refine xr_callV 49 C [] cm_X9_125 (fun l G cy => c_X6_first l G cy h46) g46 rfl rfl ⟨⟨Nat.le_of_ble_eq_true rfl, Nat.le_of_ble_eq_true rfl⟩, (Nat.le_of_ble_eq_true rfl), (Nat.le_of_ble_eq_true rfl)⟩ (Nat.le_of_ble_eq_true rfl) dX9_answer_46 rfl ?_
  refine xr_istore 51 C dX9_answer_49 (by decide) rfl [(4, mm_i x46), (0, mm_r v0), (1, mm_i v1), (2, mm_i v2), (3, mm_r v3)] rfl ?_
  refine xr_aload_n 52 4 C dX9_answer_51 rfl rfl rfl ?_
  refine xr_iload 54 0 C dX9_answer_52 rfl rfl ?_
  obtain ⟨u54, g54, hf⟩ := mm_bd_e hf
  obtain ⟨x54, h54, hf⟩ := mm_bd_e hf
  refine xr_callV 57 C [mm_i x46] cm_X9_129 (fun l G cy => c_X6_memoryAt l G cy h54) g54 rfl rfl ⟨⟨Nat.le_of_ble_eq_true rfl, Nat.le_of_ble_eq_true rfl⟩, (Nat.le_of_ble_eq_true rfl), (Nat.le_of_ble_eq_true rfl)⟩ (Nat.le_of_ble_eq_true rfl) dX9_answer_54 rfl ?_
  refine xr_astore 59 C dX9_answer_57 (by decide) rfl [(5, mm_r x54), (4, mm_i x46), (0, mm_r v0), (1, mm_i v1), (2, mm_i v2), (3, mm_r v3)] rfl ?_
  refine xr_aload_n 60 5 C dX9_answer_59 rfl rfl rfl ?_
  obtain ⟨u60, g60, hf⟩ := mm_bd_e hf
  obtain ⟨M60, h60, hf⟩ := mm_bd_e hf
  refine xr_callV 63 C [] cm_X9_133 (fun l G cy => c_X6_dropFirst l G cy h60) g60 rfl rfl ⟨⟨Nat.le_of_ble_eq_true rfl, Nat.le_of_ble_eq_true rfl⟩, (Nat.le_of_ble_eq_true rfl), (Nat.le_of_ble_eq_true rfl)⟩ (Nat.le_of_ble_eq_true rfl) dX9_answer_60 rfl ?_
  refine xr_aload 65 0 C dX9_answer_63 rfl rfl ?_
  refine xr_ifnull 148 68 C dX9_answer_65 (by decide) rfl (fun hc => ?_) (fun hc => ?_)
  · replace hf := (if_pos hc).symm.trans hf
    refine xr_sub [5] (lv2 := [(3, mm_r v3)]) rfl ?_
    refine xr_widen (k := 3) (n := 1014) (by omega) (by omega) ?_
    exact w_X9_answer_148 C hf ko
  · replace hf := (if_neg hc).symm.trans hf
    refine xr_sub [2, 3, 4, 5, 1, 0] (lv2 := [(0, mm_r v0), (1, mm_i v1), (2, mm_i v2), (3, mm_r v3), (4, mm_i x46), (5, mm_r x54)]) rfl ?_
    exact w_X9_answer_68 C hf ko
noncomputable def f_X9_answer_29 (M : mm_M) (v0 : Option Nat) (v1 : Int32) (v2 : Int32) (v3 : Option Nat) : Option (Int32 × mm_M) :=
  (mm_fR M v0 10 4).bind fun x30 =>
  (mm_rc M x30 0).bind fun u33 =>
  (f_Jx4a65c_size_8abf5 M x30).bind fun x33 =>
  if x33 < 3000 then f_X9_answer_45 M v0 v1 v2 v3 else f_X9_answer_42 M
set_option maxRecDepth 20000 in
theorem w_X9_answer_29 {g : mm_c} (C : mm_ok g cX9_answer "LessonCards" (some .int) "answer" 7 8 172 3 1014) {M : mm_M} {v0 : Option Nat} {v1 : Int32} {v2 : Int32} {v3 : Option Nat} {res : Int32 × mm_M} (hf : f_X9_answer_29 M v0 v1 v2 v3 = some res) (ko : (fun z => mm_q g 3 1014 (some (mm_i z.1)) z.2) res) : mm_X g 0 0 M 29 [(0, mm_r v0), (1, mm_i v1), (2, mm_i v2), (3, mm_r v3)] [] := by
  unfold f_X9_answer_29 at hf
  refine xr_aload_n 30 0 C dX9_answer_29 rfl rfl rfl ?_
  obtain ⟨x30, h30, hf⟩ := mm_bd_e hf
  refine xr_getR 33 C cf_X9_37 rfl h30 dX9_answer_30 rfl ?_
  obtain ⟨u33, g33, hf⟩ := mm_bd_e hf
  obtain ⟨x33, h33, hf⟩ := mm_bd_e hf
  refine xr_callV 36 C [] cm_X9_128 (fun l G cy => c_Jx4a65c_size_8abf5 l G cy h33) g33 rfl rfl ⟨⟨Nat.le_of_ble_eq_true rfl, Nat.le_of_ble_eq_true rfl⟩, (Nat.le_of_ble_eq_true rfl), (Nat.le_of_ble_eq_true rfl)⟩ (Nat.le_of_ble_eq_true rfl) dX9_answer_33 rfl ?_
  refine xr_sipush 39 C (v := 3000) dX9_answer_36 (by decide) rfl ?_
  refine xr_icmp_lt 45 42 C dX9_answer_39 (by decide) rfl (fun hc => ?_) (fun hc => ?_)
  · replace hf := (if_pos hc).symm.trans hf
    exact w_X9_answer_45 C hf ko
  · replace hf := (if_neg hc).symm.trans hf
    refine xr_sub [] (lv2 := []) rfl ?_
    exact w_X9_answer_42 C hf ko
noncomputable def f_X9_answer_19 (M : mm_M) (v0 : Option Nat) (v1 : Int32) (v2 : Int32) (v3 : Option Nat) : Option (Int32 × mm_M) :=
  (mm_fI M v3 7 2).bind fun x20 =>
  if x20 = 0 then f_X9_answer_26 M else f_X9_answer_29 M v0 v1 v2 v3
set_option maxRecDepth 20000 in
theorem w_X9_answer_19 {g : mm_c} (C : mm_ok g cX9_answer "LessonCards" (some .int) "answer" 7 8 172 3 1014) {M : mm_M} {v0 : Option Nat} {v1 : Int32} {v2 : Int32} {v3 : Option Nat} {res : Int32 × mm_M} (hf : f_X9_answer_19 M v0 v1 v2 v3 = some res) (ko : (fun z => mm_q g 3 1014 (some (mm_i z.1)) z.2) res) : mm_X g 0 0 M 19 [(0, mm_r v0), (1, mm_i v1), (2, mm_i v2), (3, mm_r v3)] [] := by
  unfold f_X9_answer_19 at hf
  refine xr_aload_n 20 3 C dX9_answer_19 rfl rfl rfl ?_
  obtain ⟨x20, h20, hf⟩ := mm_bd_e hf
  refine xr_getI 23 C cf_X9_114 rfl h20 dX9_answer_20 rfl ?_
  refine xr_if_ne 29 26 C dX9_answer_23 (by decide) rfl (fun hc => ?_) (fun hc => ?_)
  · replace hf := (if_neg hc).symm.trans hf
    exact w_X9_answer_29 C hf ko
  · replace hf := (if_pos hc).symm.trans hf
    refine xr_sub [] (lv2 := []) rfl ?_
    exact w_X9_answer_26 C hf ko
noncomputable def f_X9_answer_10 (M : mm_M) (v0 : Option Nat) (v1 : Int32) (v2 : Int32) (v3 : Option Nat) : Option (Int32 × mm_M) :=
  (f_X9_isAnswer M v2).bind fun x11 =>
  if x11 = 0 then f_X9_answer_17 M else f_X9_answer_19 M v0 v1 v2 v3
set_option maxRecDepth 20000 in
theorem w_X9_answer_10 {g : mm_c} (C : mm_ok g cX9_answer "LessonCards" (some .int) "answer" 7 8 172 3 1014) {M : mm_M} {v0 : Option Nat} {v1 : Int32} {v2 : Int32} {v3 : Option Nat} {res : Int32 × mm_M} (hf : f_X9_answer_10 M v0 v1 v2 v3 = some res) (ko : (fun z => mm_q g 3 1014 (some (mm_i z.1)) z.2) res) : mm_X g 0 0 M 10 [(0, mm_r v0), (1, mm_i v1), (2, mm_i v2), (3, mm_r v3)] [] := by
  unfold f_X9_answer_10 at hf
  refine xr_iload_n 11 2 C dX9_answer_10 rfl rfl rfl ?_
  obtain ⟨x11, h11, hf⟩ := mm_bd_e hf
  refine xr_callS 14 C [mm_i v2] cm_X9_100 (fun l G cy => c_X9_isAnswer l G cy h11) rfl rfl ⟨⟨Nat.le_of_ble_eq_true rfl, Nat.le_of_ble_eq_true rfl⟩, (Nat.le_of_ble_eq_true rfl), (Nat.le_of_ble_eq_true rfl)⟩ (Nat.le_of_ble_eq_true rfl) dX9_answer_11 rfl ?_
  refine xr_if_ne 19 17 C dX9_answer_14 (by decide) rfl (fun hc => ?_) (fun hc => ?_)
  · replace hf := (if_neg hc).symm.trans hf
    exact w_X9_answer_19 C hf ko
  · replace hf := (if_pos hc).symm.trans hf
    refine xr_sub [] (lv2 := []) rfl ?_
    exact w_X9_answer_17 C hf ko
noncomputable def f_X9_answer_0 (M : mm_M) (v0 : Option Nat) (v1 : Int32) (v2 : Int32) : Option (Int32 × mm_M) :=
  (mm_rc M v0 10).bind fun u2 =>
  (f_X9_learnerAt M v0 v1).bind fun x2 =>
  if x2 = none then f_X9_answer_17 M else f_X9_answer_10 M v0 v1 v2 x2
set_option maxRecDepth 20000 in
theorem w_X9_answer_0 {g : mm_c} (C : mm_ok g cX9_answer "LessonCards" (some .int) "answer" 7 8 172 3 1014) {M : mm_M} {v0 : Option Nat} {v1 : Int32} {v2 : Int32} {res : Int32 × mm_M} (hf : f_X9_answer_0 M v0 v1 v2 = some res) (ko : (fun z => mm_q g 3 1014 (some (mm_i z.1)) z.2) res) : mm_X g 0 0 M 0 [(0, mm_r v0), (1, mm_i v1), (2, mm_i v2)] [] := by
  unfold f_X9_answer_0 at hf
  refine xr_aload_n 1 0 C dX9_answer_0 rfl rfl rfl ?_
  refine xr_iload_n 2 1 C dX9_answer_1 rfl rfl rfl ?_
  obtain ⟨u2, g2, hf⟩ := mm_bd_e hf
  obtain ⟨x2, h2, hf⟩ := mm_bd_e hf
  refine xr_callV 5 C [mm_i v1] cm_X9_104 (fun l G cy => c_X9_learnerAt l G cy h2) g2 rfl rfl ⟨⟨Nat.le_of_ble_eq_true rfl, Nat.le_of_ble_eq_true rfl⟩, (Nat.le_of_ble_eq_true rfl), (Nat.le_of_ble_eq_true rfl)⟩ (Nat.le_of_ble_eq_true rfl) dX9_answer_2 rfl ?_
  refine xr_astore_n 6 C dX9_answer_5 rfl (by decide) rfl [(3, mm_r x2), (0, mm_r v0), (1, mm_i v1), (2, mm_i v2)] rfl ?_
  refine xr_aload_n 7 0 C dX9_answer_6 rfl rfl rfl ?_
  refine xr_ifnull 17 10 C dX9_answer_7 (by decide) rfl (fun hc => ?_) (fun hc => ?_)
  · replace hf := (if_pos hc).symm.trans hf
    refine xr_sub [] (lv2 := []) rfl ?_
    exact w_X9_answer_17 C hf ko
  · replace hf := (if_neg hc).symm.trans hf
    refine xr_sub [1, 2, 3, 0] (lv2 := [(0, mm_r v0), (1, mm_i v1), (2, mm_i v2), (3, mm_r x2)]) rfl ?_
    exact w_X9_answer_10 C hf ko
noncomputable def f_X9_answer (M : mm_M) (v0 : Option Nat) (v1 : Int32) (v2 : Int32) : Option (Int32 × mm_M) := f_X9_answer_0 M v0 v1 v2
theorem c_X9_answer (l : Launch) (G : va_G) (cy : Nat → ClassId) {M : mm_M} {v0 : Option Nat} {v1 : Int32} {v2 : Int32} {r : Int32} {M1 : mm_M} (hf : f_X9_answer M v0 v1 v2 = some (r, M1)) : mm_Met l yX9_answer cX9_answer 7 (some .int) 8 172 3 1014 G cy [mm_r v0, mm_i v1, mm_i v2] M (some (mm_i r)) M1 :=
  mm_enter (by decide) (Nat.le_of_ble_eq_true rfl) (fun p e R s m args below meth c Q C hq => xr_sub [0, 1, 2] (lv2 := [(0, mm_r v0), (1, mm_i v1), (2, mm_i v2)]) rfl (w_X9_answer_0 C hf hq))
noncomputable def f_X9_skip_10 (M : mm_M) : Option (Int32 × mm_M) :=
  some ((-1), M)
set_option maxRecDepth 20000 in
theorem w_X9_skip_10 {g : mm_c} (C : mm_ok g cX9_skip "LessonCards" (some .int) "skip" 4 2 43 0 0) {M : mm_M} {res : Int32 × mm_M} (hf : f_X9_skip_10 M = some res) (ko : (fun z => mm_q g 0 0 (some (mm_i z.1)) z.2) res) : mm_X g 0 0 M 10 [] [] := by
  unfold f_X9_skip_10 at hf
  refine xr_iconst 11 C (v := (-1)) dX9_skip_10 (by decide) rfl ?_
  obtain rfl := Option.some.inj hf
  exact xr_iret C ko ⟨(Nat.le_of_ble_eq_true rfl), (Nat.le_of_ble_eq_true rfl)⟩ dX9_skip_11
noncomputable def f_X9_skip_19 (M : mm_M) : Option (Int32 × mm_M) :=
  some ((-4), M)
set_option maxRecDepth 20000 in
theorem w_X9_skip_19 {g : mm_c} (C : mm_ok g cX9_skip "LessonCards" (some .int) "skip" 4 2 43 0 0) {M : mm_M} {res : Int32 × mm_M} (hf : f_X9_skip_19 M = some res) (ko : (fun z => mm_q g 0 0 (some (mm_i z.1)) z.2) res) : mm_X g 0 0 M 19 [] [] := by
  unfold f_X9_skip_19 at hf
  refine xr_bipush 21 C (v := (-4)) dX9_skip_19 (by decide) rfl ?_
  obtain rfl := Option.some.inj hf
  exact xr_iret C ko ⟨(Nat.le_of_ble_eq_true rfl), (Nat.le_of_ble_eq_true rfl)⟩ dX9_skip_21
noncomputable def f_X9_skip_22 (M : mm_M) (v2 : Option Nat) : Option (Int32 × mm_M) :=
  (mm_rc M v2 7).bind fun u23 =>
  (f_X6_first M v2).bind fun x23 =>
  (mm_rc M v2 7).bind fun u28 =>
  (f_X6_dropFirst M v2).bind fun M28 =>
  (mm_rc M28 v2 7).bind fun u33 =>
  (f_X6_append M28 v2 x23).bind fun M33 =>
  (mm_fI M33 v2 7 2).bind fun x37 =>
  some (x37, M33)
set_option maxRecDepth 20000 in
theorem w_X9_skip_22 {g : mm_c} (C : mm_ok g cX9_skip "LessonCards" (some .int) "skip" 4 2 43 0 0) {M : mm_M} {v2 : Option Nat} {res : Int32 × mm_M} (hf : f_X9_skip_22 M v2 = some res) (ko : (fun z => mm_q g 0 0 (some (mm_i z.1)) z.2) res) : mm_X g 0 0 M 22 [(2, mm_r v2)] [] := by
  unfold f_X9_skip_22 at hf
  refine xr_aload_n 23 0 C dX9_skip_22 rfl rfl rfl ?_
  obtain ⟨u23, g23, hf⟩ := mm_bd_e hf
  obtain ⟨x23, h23, hf⟩ := mm_bd_e hf
  refine xr_callV 26 C [] cm_X9_125 (fun l G cy => c_X6_first l G cy h23) g23 rfl rfl ⟨⟨Nat.le_of_ble_eq_true rfl, Nat.le_of_ble_eq_true rfl⟩, (Nat.le_of_ble_eq_true rfl), (Nat.le_of_ble_eq_true rfl)⟩ (Nat.le_of_ble_eq_true rfl) dX9_skip_23 rfl ?_
  refine xr_istore_n 27 C dX9_skip_26 rfl (by decide) rfl [(3, mm_i x23), (2, mm_r v2)] rfl ?_
  refine xr_aload_n 28 1 C dX9_skip_27 rfl rfl rfl ?_
  obtain ⟨u28, g28, hf⟩ := mm_bd_e hf
  obtain ⟨M28, h28, hf⟩ := mm_bd_e hf
  refine xr_callV 31 C [] cm_X9_133 (fun l G cy => c_X6_dropFirst l G cy h28) g28 rfl rfl ⟨⟨Nat.le_of_ble_eq_true rfl, Nat.le_of_ble_eq_true rfl⟩, (Nat.le_of_ble_eq_true rfl), (Nat.le_of_ble_eq_true rfl)⟩ (Nat.le_of_ble_eq_true rfl) dX9_skip_28 rfl ?_
  refine xr_aload_n 32 1 C dX9_skip_31 rfl rfl rfl ?_
  refine xr_iload_n 33 0 C dX9_skip_32 rfl rfl rfl ?_
  obtain ⟨u33, g33, hf⟩ := mm_bd_e hf
  obtain ⟨M33, h33, hf⟩ := mm_bd_e hf
  refine xr_callV 36 C [mm_i x23] cm_X9_159 (fun l G cy => c_X6_append l G cy h33) g33 rfl rfl ⟨⟨Nat.le_of_ble_eq_true rfl, Nat.le_of_ble_eq_true rfl⟩, (Nat.le_of_ble_eq_true rfl), (Nat.le_of_ble_eq_true rfl)⟩ (Nat.le_of_ble_eq_true rfl) dX9_skip_33 rfl ?_
  refine xr_aload_n 37 1 C dX9_skip_36 rfl rfl rfl ?_
  obtain ⟨x37, h37, hf⟩ := mm_bd_e hf
  refine xr_getI 40 C cf_X9_114 rfl h37 dX9_skip_37 rfl ?_
  obtain rfl := Option.some.inj hf
  exact xr_iret C ko ⟨(Nat.le_of_ble_eq_true rfl), (Nat.le_of_ble_eq_true rfl)⟩ dX9_skip_40
noncomputable def f_X9_skip_12 (M : mm_M) (v2 : Option Nat) : Option (Int32 × mm_M) :=
  (mm_fI M v2 7 2).bind fun x13 =>
  if x13 = 0 then f_X9_skip_19 M else f_X9_skip_22 M v2
set_option maxRecDepth 20000 in
theorem w_X9_skip_12 {g : mm_c} (C : mm_ok g cX9_skip "LessonCards" (some .int) "skip" 4 2 43 0 0) {M : mm_M} {v2 : Option Nat} {res : Int32 × mm_M} (hf : f_X9_skip_12 M v2 = some res) (ko : (fun z => mm_q g 0 0 (some (mm_i z.1)) z.2) res) : mm_X g 0 0 M 12 [(2, mm_r v2)] [] := by
  unfold f_X9_skip_12 at hf
  refine xr_aload_n 13 0 C dX9_skip_12 rfl rfl rfl ?_
  obtain ⟨x13, h13, hf⟩ := mm_bd_e hf
  refine xr_getI 16 C cf_X9_114 rfl h13 dX9_skip_13 rfl ?_
  refine xr_if_ne 22 19 C dX9_skip_16 (by decide) rfl (fun hc => ?_) (fun hc => ?_)
  · replace hf := (if_neg hc).symm.trans hf
    exact w_X9_skip_22 C hf ko
  · replace hf := (if_pos hc).symm.trans hf
    refine xr_sub [] (lv2 := []) rfl ?_
    exact w_X9_skip_19 C hf ko
noncomputable def f_X9_skip_0 (M : mm_M) (v0 : Option Nat) (v1 : Int32) : Option (Int32 × mm_M) :=
  (mm_rc M v0 10).bind fun u2 =>
  (f_X9_learnerAt M v0 v1).bind fun x2 =>
  if x2 = none then f_X9_skip_10 M else f_X9_skip_12 M x2
set_option maxRecDepth 20000 in
theorem w_X9_skip_0 {g : mm_c} (C : mm_ok g cX9_skip "LessonCards" (some .int) "skip" 4 2 43 0 0) {M : mm_M} {v0 : Option Nat} {v1 : Int32} {res : Int32 × mm_M} (hf : f_X9_skip_0 M v0 v1 = some res) (ko : (fun z => mm_q g 0 0 (some (mm_i z.1)) z.2) res) : mm_X g 0 0 M 0 [(0, mm_r v0), (1, mm_i v1)] [] := by
  unfold f_X9_skip_0 at hf
  refine xr_aload_n 1 0 C dX9_skip_0 rfl rfl rfl ?_
  refine xr_iload_n 2 1 C dX9_skip_1 rfl rfl rfl ?_
  obtain ⟨u2, g2, hf⟩ := mm_bd_e hf
  obtain ⟨x2, h2, hf⟩ := mm_bd_e hf
  refine xr_callV 5 C [mm_i v1] cm_X9_104 (fun l G cy => c_X9_learnerAt l G cy h2) g2 rfl rfl ⟨⟨Nat.le_of_ble_eq_true rfl, Nat.le_of_ble_eq_true rfl⟩, (Nat.le_of_ble_eq_true rfl), (Nat.le_of_ble_eq_true rfl)⟩ (Nat.le_of_ble_eq_true rfl) dX9_skip_2 rfl ?_
  refine xr_astore_n 6 C dX9_skip_5 rfl (by decide) rfl [(2, mm_r x2), (0, mm_r v0), (1, mm_i v1)] rfl ?_
  refine xr_aload_n 7 0 C dX9_skip_6 rfl rfl rfl ?_
  refine xr_ifnonnull 12 10 C dX9_skip_7 (by decide) rfl (fun hc => ?_) (fun hc => ?_)
  · replace hf := (if_neg hc).symm.trans hf
    refine xr_sub [0] (lv2 := [(2, mm_r x2)]) rfl ?_
    exact w_X9_skip_12 C hf ko
  · replace hf := (if_pos hc).symm.trans hf
    refine xr_sub [] (lv2 := []) rfl ?_
    exact w_X9_skip_10 C hf ko
noncomputable def f_X9_skip (M : mm_M) (v0 : Option Nat) (v1 : Int32) : Option (Int32 × mm_M) := f_X9_skip_0 M v0 v1
theorem c_X9_skip (l : Launch) (G : va_G) (cy : Nat → ClassId) {M : mm_M} {v0 : Option Nat} {v1 : Int32} {r : Int32} {M1 : mm_M} (hf : f_X9_skip M v0 v1 = some (r, M1)) : mm_Met l yX9_skip cX9_skip 4 (some .int) 2 43 0 0 G cy [mm_r v0, mm_i v1] M (some (mm_i r)) M1 :=
  mm_enter (by decide) (Nat.le_of_ble_eq_true rfl) (fun p e R s m args below meth c Q C hq => xr_sub [0, 1] (lv2 := [(0, mm_r v0), (1, mm_i v1)]) rfl (w_X9_skip_0 C hf hq))
noncomputable def f_X9_memoryOf_23 (M : mm_M) (s0 : Option Nat) : Option (Option Nat) :=
  some s0
set_option maxRecDepth 20000 in
theorem w_X9_memoryOf_23 {g : mm_c} (C : mm_ok g cX9_memoryOf "LessonCards" (some (.object "LessonCards$Memory")) "memoryOf" 5 5 108 0 0) {M : mm_M} {s0 : Option Nat} {res : Option Nat} (hf : f_X9_memoryOf_23 M s0 = some res) (ko : (fun z => mm_q g 0 0 (some (mm_r z)) M) res) : mm_X g 0 0 M 23 [] [mm_r s0] := by
  unfold f_X9_memoryOf_23 at hf
  obtain rfl := Option.some.inj hf
  exact xr_aret (by first | exact Or.inl ⟨_, rfl⟩ | exact Or.inr ⟨_, rfl⟩) C ko ⟨(Nat.le_of_ble_eq_true rfl), (Nat.le_of_ble_eq_true rfl)⟩ dX9_memoryOf_23
noncomputable def f_X9_memoryOf_12 (M : mm_M) : Option (Option Nat) :=
  f_X9_memoryOf_23 M none
set_option maxRecDepth 20000 in
theorem w_X9_memoryOf_12 {g : mm_c} (C : mm_ok g cX9_memoryOf "LessonCards" (some (.object "LessonCards$Memory")) "memoryOf" 5 5 108 0 0) {M : mm_M} {res : Option Nat} (hf : f_X9_memoryOf_12 M = some res) (ko : (fun z => mm_q g 0 0 (some (mm_r z)) M) res) : mm_X g 0 0 M 12 [] [] := by
  unfold f_X9_memoryOf_12 at hf
  refine xr_null 13 C dX9_memoryOf_12 rfl ?_
  refine xr_goto 23 C dX9_memoryOf_13 (by decide) ?_
  exact w_X9_memoryOf_23 C hf ko
noncomputable def f_X9_memoryOf_16 (M : mm_M) (v2 : Int32) (v3 : Int32) (v4 : Option Nat) : Option (Option Nat) :=
  (mm_rc M v4 7).bind fun u20 =>
  (f_X6_memoryOf M v4 v2 v3).bind fun x20 =>
  f_X9_memoryOf_23 M x20
set_option maxRecDepth 20000 in
theorem w_X9_memoryOf_16 {g : mm_c} (C : mm_ok g cX9_memoryOf "LessonCards" (some (.object "LessonCards$Memory")) "memoryOf" 5 5 108 0 0) {M : mm_M} {v2 : Int32} {v3 : Int32} {v4 : Option Nat} {res : Option Nat} (hf : f_X9_memoryOf_16 M v2 v3 v4 = some res) (ko : (fun z => mm_q g 0 0 (some (mm_r z)) M) res) : mm_X g 0 0 M 16 [(2, mm_i v2), (3, mm_i v3), (4, mm_r v4)] [] := by
  unfold f_X9_memoryOf_16 at hf
  refine xr_aload 18 2 C dX9_memoryOf_16 rfl rfl ?_
  refine xr_iload_n 19 0 C dX9_memoryOf_18 rfl rfl rfl ?_
  refine xr_iload_n 20 1 C dX9_memoryOf_19 rfl rfl rfl ?_
  obtain ⟨u20, g20, hf⟩ := mm_bd_e hf
  obtain ⟨x20, h20, hf⟩ := mm_bd_e hf
  refine xr_callV 23 C [mm_i v2, mm_i v3] cm_X9_229 (fun l G cy => c_X6_memoryOf l G cy h20) g20 rfl rfl ⟨⟨Nat.le_of_ble_eq_true rfl, Nat.le_of_ble_eq_true rfl⟩, (Nat.le_of_ble_eq_true rfl), (Nat.le_of_ble_eq_true rfl)⟩ (Nat.le_of_ble_eq_true rfl) dX9_memoryOf_20 rfl ?_
  refine xr_sub [] (lv2 := []) rfl ?_
  exact w_X9_memoryOf_23 C hf ko
noncomputable def f_X9_memoryOf_0 (M : mm_M) (v0 : Option Nat) (v1 : Int32) (v2 : Int32) (v3 : Int32) : Option (Option Nat) :=
  (mm_rc M v0 10).bind fun u2 =>
  (f_X9_learnerAt M v0 v1).bind fun x2 =>
  if x2 = none then f_X9_memoryOf_12 M else f_X9_memoryOf_16 M v2 v3 x2
set_option maxRecDepth 20000 in
theorem w_X9_memoryOf_0 {g : mm_c} (C : mm_ok g cX9_memoryOf "LessonCards" (some (.object "LessonCards$Memory")) "memoryOf" 5 5 108 0 0) {M : mm_M} {v0 : Option Nat} {v1 : Int32} {v2 : Int32} {v3 : Int32} {res : Option Nat} (hf : f_X9_memoryOf_0 M v0 v1 v2 v3 = some res) (ko : (fun z => mm_q g 0 0 (some (mm_r z)) M) res) : mm_X g 0 0 M 0 [(0, mm_r v0), (1, mm_i v1), (2, mm_i v2), (3, mm_i v3)] [] := by
  unfold f_X9_memoryOf_0 at hf
  refine xr_aload_n 1 0 C dX9_memoryOf_0 rfl rfl rfl ?_
  refine xr_iload_n 2 1 C dX9_memoryOf_1 rfl rfl rfl ?_
  obtain ⟨u2, g2, hf⟩ := mm_bd_e hf
  obtain ⟨x2, h2, hf⟩ := mm_bd_e hf
  refine xr_callV 5 C [mm_i v1] cm_X9_104 (fun l G cy => c_X9_learnerAt l G cy h2) g2 rfl rfl ⟨⟨Nat.le_of_ble_eq_true rfl, Nat.le_of_ble_eq_true rfl⟩, (Nat.le_of_ble_eq_true rfl), (Nat.le_of_ble_eq_true rfl)⟩ (Nat.le_of_ble_eq_true rfl) dX9_memoryOf_2 rfl ?_
  refine xr_astore 7 C dX9_memoryOf_5 (by decide) rfl [(4, mm_r x2), (0, mm_r v0), (1, mm_i v1), (2, mm_i v2), (3, mm_i v3)] rfl ?_
  refine xr_aload 9 0 C dX9_memoryOf_7 rfl rfl ?_
  refine xr_ifnonnull 16 12 C dX9_memoryOf_9 (by decide) rfl (fun hc => ?_) (fun hc => ?_)
  · replace hf := (if_neg hc).symm.trans hf
    refine xr_sub [3, 4, 0] (lv2 := [(2, mm_i v2), (3, mm_i v3), (4, mm_r x2)]) rfl ?_
    exact w_X9_memoryOf_16 C hf ko
  · replace hf := (if_pos hc).symm.trans hf
    refine xr_sub [] (lv2 := []) rfl ?_
    exact w_X9_memoryOf_12 C hf ko
noncomputable def f_X9_memoryOf (M : mm_M) (v0 : Option Nat) (v1 : Int32) (v2 : Int32) (v3 : Int32) : Option (Option Nat) := f_X9_memoryOf_0 M v0 v1 v2 v3
theorem c_X9_memoryOf (l : Launch) (G : va_G) (cy : Nat → ClassId) {M : mm_M} {v0 : Option Nat} {v1 : Int32} {v2 : Int32} {v3 : Int32} {r : Option Nat} (hf : f_X9_memoryOf M v0 v1 v2 v3 = some r) : mm_Met l yX9_memoryOf cX9_memoryOf 5 (some (.object "LessonCards$Memory")) 5 108 0 0 G cy [mm_r v0, mm_i v1, mm_i v2, mm_i v3] M (some (mm_r r)) M :=
  mm_enter (by decide) (Nat.le_of_ble_eq_true rfl) (fun p e R s m args below meth c Q C hq => xr_sub [0, 1, 2, 3] (lv2 := [(0, mm_r v0), (1, mm_i v1), (2, mm_i v2), (3, mm_i v3)]) rfl (w_X9_memoryOf_0 C hf hq))
noncomputable def f_X9_bury_34 (M : mm_M) : Option (Int32 × mm_M) :=
  some ((-1), M)
set_option maxRecDepth 20000 in
theorem w_X9_bury_34 {g : mm_c} (C : mm_ok g cX9_bury "LessonCards" (some .int) "bury" 6 6 132 0 0) {M : mm_M} {res : Int32 × mm_M} (hf : f_X9_bury_34 M = some res) (ko : (fun z => mm_q g 0 0 (some (mm_i z.1)) z.2) res) : mm_X g 0 0 M 34 [] [] := by
  unfold f_X9_bury_34 at hf
  refine xr_iconst 35 C (v := (-1)) dX9_bury_34 (by decide) rfl ?_
  obtain rfl := Option.some.inj hf
  exact xr_iret C ko ⟨(Nat.le_of_ble_eq_true rfl), (Nat.le_of_ble_eq_true rfl)⟩ dX9_bury_35
noncomputable def f_X9_bury_36 (M : mm_M) (v2 : Int32) (v3 : Int32) (v4 : Option Nat) (v5 : Option Nat) : Option (Int32 × mm_M) :=
  (mm_pZ M v5 9 5 1).bind fun M39 =>
  (f_X9_placeOf M39 v2 v3).bind fun x46 =>
  (mm_rc M39 v4 7).bind fun u49 =>
  (f_X6_drop M39 v4 x46).bind fun M49 =>
  (mm_fI M49 v4 7 2).bind fun x54 =>
  some (x54, M49)
set_option maxRecDepth 20000 in
theorem w_X9_bury_36 {g : mm_c} (C : mm_ok g cX9_bury "LessonCards" (some .int) "bury" 6 6 132 0 0) {M : mm_M} {v2 : Int32} {v3 : Int32} {v4 : Option Nat} {v5 : Option Nat} {res : Int32 × mm_M} (hf : f_X9_bury_36 M v2 v3 v4 v5 = some res) (ko : (fun z => mm_q g 0 0 (some (mm_i z.1)) z.2) res) : mm_X g 0 0 M 36 [(2, mm_i v2), (3, mm_i v3), (4, mm_r v4), (5, mm_r v5)] [] := by
  unfold f_X9_bury_36 at hf
  refine xr_aload 38 3 C dX9_bury_36 rfl rfl ?_
  refine xr_iconst 39 C (v := 1) dX9_bury_38 (by decide) rfl ?_
  obtain ⟨M39, h39, hf⟩ := mm_bd_e hf
  refine xr_putZ 42 C cf_X9_166 (fun h => by cases h) h39 dX9_bury_39 rfl ?_
  refine xr_aload 44 2 C dX9_bury_42 rfl rfl ?_
  refine xr_iload_n 45 0 C dX9_bury_44 rfl rfl rfl ?_
  refine xr_iload_n 46 1 C dX9_bury_45 rfl rfl rfl ?_
  obtain ⟨x46, h46, hf⟩ := mm_bd_e hf
  refine xr_callS 49 C [mm_i v2, mm_i v3] cm_X9_170 (fun l G cy => c_X9_placeOf l G cy h46) rfl rfl ⟨⟨Nat.le_of_ble_eq_true rfl, Nat.le_of_ble_eq_true rfl⟩, (Nat.le_of_ble_eq_true rfl), (Nat.le_of_ble_eq_true rfl)⟩ (Nat.le_of_ble_eq_true rfl) dX9_bury_46 rfl ?_
  obtain ⟨u49, g49, hf⟩ := mm_bd_e hf
  obtain ⟨M49, h49, hf⟩ := mm_bd_e hf
  refine xr_callV 52 C [mm_i x46] cm_X9_174 (fun l G cy => c_X6_drop l G cy h49) g49 rfl rfl ⟨⟨Nat.le_of_ble_eq_true rfl, Nat.le_of_ble_eq_true rfl⟩, (Nat.le_of_ble_eq_true rfl), (Nat.le_of_ble_eq_true rfl)⟩ (Nat.le_of_ble_eq_true rfl) dX9_bury_49 rfl ?_
  refine xr_aload 54 2 C dX9_bury_52 rfl rfl ?_
  obtain ⟨x54, h54, hf⟩ := mm_bd_e hf
  refine xr_getI 57 C cf_X9_114 rfl h54 dX9_bury_54 rfl ?_
  obtain rfl := Option.some.inj hf
  exact xr_iret C ko ⟨(Nat.le_of_ble_eq_true rfl), (Nat.le_of_ble_eq_true rfl)⟩ dX9_bury_57
noncomputable def f_X9_bury_26 (M : mm_M) (v2 : Int32) (v3 : Int32) (v4 : Option Nat) (v5 : Option Nat) : Option (Int32 × mm_M) :=
  (mm_fI M v5 9 5).bind fun x28 =>
  if x28 = 0 then f_X9_bury_36 M v2 v3 v4 v5 else f_X9_bury_34 M
set_option maxRecDepth 20000 in
theorem w_X9_bury_26 {g : mm_c} (C : mm_ok g cX9_bury "LessonCards" (some .int) "bury" 6 6 132 0 0) {M : mm_M} {v2 : Int32} {v3 : Int32} {v4 : Option Nat} {v5 : Option Nat} {res : Int32 × mm_M} (hf : f_X9_bury_26 M v2 v3 v4 v5 = some res) (ko : (fun z => mm_q g 0 0 (some (mm_i z.1)) z.2) res) : mm_X g 0 0 M 26 [(2, mm_i v2), (3, mm_i v3), (4, mm_r v4), (5, mm_r v5)] [] := by
  unfold f_X9_bury_26 at hf
  refine xr_aload 28 3 C dX9_bury_26 rfl rfl ?_
  obtain ⟨x28, h28, hf⟩ := mm_bd_e hf
  refine xr_getI 31 C cf_X9_166 rfl h28 dX9_bury_28 rfl ?_
  refine xr_if_eq 36 34 C dX9_bury_31 (by decide) rfl (fun hc => ?_) (fun hc => ?_)
  · replace hf := (if_pos hc).symm.trans hf
    exact w_X9_bury_36 C hf ko
  · replace hf := (if_neg hc).symm.trans hf
    refine xr_sub [] (lv2 := []) rfl ?_
    exact w_X9_bury_34 C hf ko
noncomputable def f_X9_bury_21 (M : mm_M) (v2 : Int32) (v3 : Int32) (v4 : Option Nat) (v5 : Option Nat) : Option (Int32 × mm_M) :=
  if v5 = none then f_X9_bury_34 M else f_X9_bury_26 M v2 v3 v4 v5
set_option maxRecDepth 20000 in
theorem w_X9_bury_21 {g : mm_c} (C : mm_ok g cX9_bury "LessonCards" (some .int) "bury" 6 6 132 0 0) {M : mm_M} {v2 : Int32} {v3 : Int32} {v4 : Option Nat} {v5 : Option Nat} {res : Int32 × mm_M} (hf : f_X9_bury_21 M v2 v3 v4 v5 = some res) (ko : (fun z => mm_q g 0 0 (some (mm_i z.1)) z.2) res) : mm_X g 0 0 M 21 [(2, mm_i v2), (3, mm_i v3), (4, mm_r v4), (5, mm_r v5)] [] := by
  unfold f_X9_bury_21 at hf
  refine xr_aload 23 3 C dX9_bury_21 rfl rfl ?_
  refine xr_ifnull 34 26 C dX9_bury_23 (by decide) rfl (fun hc => ?_) (fun hc => ?_)
  · replace hf := (if_pos hc).symm.trans hf
    refine xr_sub [] (lv2 := []) rfl ?_
    exact w_X9_bury_34 C hf ko
  · replace hf := (if_neg hc).symm.trans hf
    exact w_X9_bury_26 C hf ko
noncomputable def f_X9_bury_0 (M : mm_M) (v0 : Option Nat) (v1 : Int32) (v2 : Int32) (v3 : Int32) : Option (Int32 × mm_M) :=
  (mm_rc M v0 10).bind fun u2 =>
  (f_X9_learnerAt M v0 v1).bind fun x2 =>
  (mm_rc M v0 10).bind fun u11 =>
  (f_X9_memoryOf M v0 v1 v2 v3).bind fun x11 =>
  if x2 = none then f_X9_bury_34 M else f_X9_bury_21 M v2 v3 x2 x11
set_option maxRecDepth 20000 in
theorem w_X9_bury_0 {g : mm_c} (C : mm_ok g cX9_bury "LessonCards" (some .int) "bury" 6 6 132 0 0) {M : mm_M} {v0 : Option Nat} {v1 : Int32} {v2 : Int32} {v3 : Int32} {res : Int32 × mm_M} (hf : f_X9_bury_0 M v0 v1 v2 v3 = some res) (ko : (fun z => mm_q g 0 0 (some (mm_i z.1)) z.2) res) : mm_X g 0 0 M 0 [(0, mm_r v0), (1, mm_i v1), (2, mm_i v2), (3, mm_i v3)] [] := by
  unfold f_X9_bury_0 at hf
  refine xr_aload_n 1 0 C dX9_bury_0 rfl rfl rfl ?_
  refine xr_iload_n 2 1 C dX9_bury_1 rfl rfl rfl ?_
  obtain ⟨u2, g2, hf⟩ := mm_bd_e hf
  obtain ⟨x2, h2, hf⟩ := mm_bd_e hf
  refine xr_callV 5 C [mm_i v1] cm_X9_104 (fun l G cy => c_X9_learnerAt l G cy h2) g2 rfl rfl ⟨⟨Nat.le_of_ble_eq_true rfl, Nat.le_of_ble_eq_true rfl⟩, (Nat.le_of_ble_eq_true rfl), (Nat.le_of_ble_eq_true rfl)⟩ (Nat.le_of_ble_eq_true rfl) dX9_bury_2 rfl ?_
  refine xr_astore 7 C dX9_bury_5 (by decide) rfl [(4, mm_r x2), (0, mm_r v0), (1, mm_i v1), (2, mm_i v2), (3, mm_i v3)] rfl ?_
  refine xr_aload_n 8 1 C dX9_bury_7 rfl rfl rfl ?_
  refine xr_iload_n 9 2 C dX9_bury_8 rfl rfl rfl ?_
  refine xr_iload_n 10 3 C dX9_bury_9 rfl rfl rfl ?_
  refine xr_iload_n 11 4 C dX9_bury_10 rfl rfl rfl ?_
  obtain ⟨u11, g11, hf⟩ := mm_bd_e hf
  obtain ⟨x11, h11, hf⟩ := mm_bd_e hf
  refine xr_callV 14 C [mm_i v1, mm_i v2, mm_i v3] cm_X9_162 (fun l G cy => c_X9_memoryOf l G cy h11) g11 rfl rfl ⟨⟨Nat.le_of_ble_eq_true rfl, Nat.le_of_ble_eq_true rfl⟩, (Nat.le_of_ble_eq_true rfl), (Nat.le_of_ble_eq_true rfl)⟩ (Nat.le_of_ble_eq_true rfl) dX9_bury_11 rfl ?_
  refine xr_astore 16 C dX9_bury_14 (by decide) rfl [(5, mm_r x11), (4, mm_r x2), (0, mm_r v0), (1, mm_i v1), (2, mm_i v2), (3, mm_i v3)] rfl ?_
  refine xr_aload 18 1 C dX9_bury_16 rfl rfl ?_
  refine xr_ifnull 34 21 C dX9_bury_18 (by decide) rfl (fun hc => ?_) (fun hc => ?_)
  · replace hf := (if_pos hc).symm.trans hf
    refine xr_sub [] (lv2 := []) rfl ?_
    exact w_X9_bury_34 C hf ko
  · replace hf := (if_neg hc).symm.trans hf
    refine xr_sub [4, 5, 1, 0] (lv2 := [(2, mm_i v2), (3, mm_i v3), (4, mm_r x2), (5, mm_r x11)]) rfl ?_
    exact w_X9_bury_21 C hf ko
noncomputable def f_X9_bury (M : mm_M) (v0 : Option Nat) (v1 : Int32) (v2 : Int32) (v3 : Int32) : Option (Int32 × mm_M) := f_X9_bury_0 M v0 v1 v2 v3
theorem c_X9_bury (l : Launch) (G : va_G) (cy : Nat → ClassId) {M : mm_M} {v0 : Option Nat} {v1 : Int32} {v2 : Int32} {v3 : Int32} {r : Int32} {M1 : mm_M} (hf : f_X9_bury M v0 v1 v2 v3 = some (r, M1)) : mm_Met l yX9_bury cX9_bury 6 (some .int) 6 132 0 0 G cy [mm_r v0, mm_i v1, mm_i v2, mm_i v3] M (some (mm_i r)) M1 :=
  mm_enter (by decide) (Nat.le_of_ble_eq_true rfl) (fun p e R s m args below meth c Q C hq => xr_sub [0, 1, 2, 3] (lv2 := [(0, mm_r v0), (1, mm_i v1), (2, mm_i v2), (3, mm_i v3)]) rfl (w_X9_bury_0 C hf hq))
noncomputable def f_Jx4a65c_isEmpty_aae02_12 (M : mm_M) (s0 : Int32) : Option (Int32) :=
  mm_gd (s0 = 0 ∨ s0 = 1) <|
  some s0
set_option maxRecDepth 20000 in
theorem w_Jx4a65c_isEmpty_aae02_12 {g : mm_c} (C : mm_ok g cJx4a65c_isEmpty_aae02 "java/util/ArrayList" (some .boolean) "isEmpty" 1 0 0 0 0) {M : mm_M} {s0 : Int32} {res : Int32} (hf : f_Jx4a65c_isEmpty_aae02_12 M s0 = some res) (ko : (fun z => mm_q g 0 0 (some (mm_i z)) M) res) : mm_X g 0 0 M 12 [] [mm_i s0] := by
  unfold f_Jx4a65c_isEmpty_aae02_12 at hf
  obtain ⟨hz, hf⟩ := mm_gd_e hf
  obtain rfl := Option.some.inj hf
  exact xr_zret C hz ko ⟨(Nat.le_of_ble_eq_true rfl), (Nat.le_of_ble_eq_true rfl)⟩ dJx4a65c_isEmpty_aae02_12
noncomputable def f_Jx4a65c_isEmpty_aae02_7 (M : mm_M) : Option (Int32) :=
  f_Jx4a65c_isEmpty_aae02_12 M 1
set_option maxRecDepth 20000 in
theorem w_Jx4a65c_isEmpty_aae02_7 {g : mm_c} (C : mm_ok g cJx4a65c_isEmpty_aae02 "java/util/ArrayList" (some .boolean) "isEmpty" 1 0 0 0 0) {M : mm_M} {res : Int32} (hf : f_Jx4a65c_isEmpty_aae02_7 M = some res) (ko : (fun z => mm_q g 0 0 (some (mm_i z)) M) res) : mm_X g 0 0 M 7 [] [] := by
  unfold f_Jx4a65c_isEmpty_aae02_7 at hf
  refine xr_iconst 8 C (v := 1) dJx4a65c_isEmpty_aae02_7 (by decide) rfl ?_
  refine xr_goto 12 C dJx4a65c_isEmpty_aae02_8 (by decide) ?_
  exact w_Jx4a65c_isEmpty_aae02_12 C hf ko
noncomputable def f_Jx4a65c_isEmpty_aae02_11 (M : mm_M) : Option (Int32) :=
  f_Jx4a65c_isEmpty_aae02_12 M 0
set_option maxRecDepth 20000 in
theorem w_Jx4a65c_isEmpty_aae02_11 {g : mm_c} (C : mm_ok g cJx4a65c_isEmpty_aae02 "java/util/ArrayList" (some .boolean) "isEmpty" 1 0 0 0 0) {M : mm_M} {res : Int32} (hf : f_Jx4a65c_isEmpty_aae02_11 M = some res) (ko : (fun z => mm_q g 0 0 (some (mm_i z)) M) res) : mm_X g 0 0 M 11 [] [] := by
  unfold f_Jx4a65c_isEmpty_aae02_11 at hf
  refine xr_iconst 12 C (v := 0) dJx4a65c_isEmpty_aae02_11 (by decide) rfl ?_
  exact w_Jx4a65c_isEmpty_aae02_12 C hf ko
noncomputable def f_Jx4a65c_isEmpty_aae02_0 (M : mm_M) (v0 : Option Nat) : Option (Int32) :=
  (mm_fI M v0 0 2).bind fun x1 =>
  if x1 = 0 then f_Jx4a65c_isEmpty_aae02_7 M else f_Jx4a65c_isEmpty_aae02_11 M
set_option maxRecDepth 20000 in
theorem w_Jx4a65c_isEmpty_aae02_0 {g : mm_c} (C : mm_ok g cJx4a65c_isEmpty_aae02 "java/util/ArrayList" (some .boolean) "isEmpty" 1 0 0 0 0) {M : mm_M} {v0 : Option Nat} {res : Int32} (hf : f_Jx4a65c_isEmpty_aae02_0 M v0 = some res) (ko : (fun z => mm_q g 0 0 (some (mm_i z)) M) res) : mm_X g 0 0 M 0 [(0, mm_r v0)] [] := by
  unfold f_Jx4a65c_isEmpty_aae02_0 at hf
  refine xr_aload_n 1 0 C dJx4a65c_isEmpty_aae02_0 rfl rfl rfl ?_
  obtain ⟨x1, h1, hf⟩ := mm_bd_e hf
  refine xr_getI 4 C cf_Jx4a65c_48 rfl h1 dJx4a65c_isEmpty_aae02_1 rfl ?_
  refine xr_if_ne 11 7 C dJx4a65c_isEmpty_aae02_4 (by decide) rfl (fun hc => ?_) (fun hc => ?_)
  · replace hf := (if_neg hc).symm.trans hf
    refine xr_sub [] (lv2 := []) rfl ?_
    exact w_Jx4a65c_isEmpty_aae02_11 C hf ko
  · replace hf := (if_pos hc).symm.trans hf
    refine xr_sub [] (lv2 := []) rfl ?_
    exact w_Jx4a65c_isEmpty_aae02_7 C hf ko
noncomputable def f_Jx4a65c_isEmpty_aae02 (M : mm_M) (v0 : Option Nat) : Option (Int32) := f_Jx4a65c_isEmpty_aae02_0 M v0
theorem c_Jx4a65c_isEmpty_aae02 (l : Launch) (G : va_G) (cy : Nat → ClassId) {M : mm_M} {v0 : Option Nat} {r : Int32} (hf : f_Jx4a65c_isEmpty_aae02 M v0 = some r) : mm_Met l yJx4a65c_isEmpty_aae02 cJx4a65c_isEmpty_aae02 1 (some .boolean) 0 0 0 0 G cy [mm_r v0] M (some (mm_i r)) M :=
  mm_enter (by decide) (Nat.le_of_ble_eq_true rfl) (fun p e R s m args below meth c Q C hq => xr_sub [0] (lv2 := [(0, mm_r v0)]) rfl (w_Jx4a65c_isEmpty_aae02_0 C hf hq))
noncomputable def f_Jx4a65c_fastRemove_b59b0_34 (M : mm_M) (v0 : Option Nat) (v1 : Option Nat) (v3 : Int32) : Option (mm_M) :=
  (mm_pI M v0 0 2 v3).bind fun M38 =>
  (mm_tR M38 v1 17 v3 none).bind fun M42 =>
  some M42
set_option maxRecDepth 20000 in
theorem w_Jx4a65c_fastRemove_b59b0_34 {g : mm_c} (C : mm_ok g cJx4a65c_fastRemove_b59b0 "java/util/ArrayList" none "fastRemove" 4 0 0 0 0) {M : mm_M} {v0 : Option Nat} {v1 : Option Nat} {v3 : Int32} {res : mm_M} (hf : f_Jx4a65c_fastRemove_b59b0_34 M v0 v1 v3 = some res) (ko : (fun z => mm_q g 0 0 none z) res) : mm_X g 0 0 M 34 [(0, mm_r v0), (1, mm_r v1), (3, mm_i v3)] [] := by
  unfold f_Jx4a65c_fastRemove_b59b0_34 at hf
  refine xr_aload_n 35 1 C dJx4a65c_fastRemove_b59b0_34 rfl rfl rfl ?_
  refine xr_aload_n 36 0 C dJx4a65c_fastRemove_b59b0_35 rfl rfl rfl ?_
  refine xr_iload_n 37 2 C dJx4a65c_fastRemove_b59b0_36 rfl rfl rfl ?_
  refine xr_dup_x1 38 C dJx4a65c_fastRemove_b59b0_37 rfl rfl rfl ?_
  obtain ⟨M38, h38, hf⟩ := mm_bd_e hf
  refine xr_putI 41 C cf_Jx4a65c_48 (fun h => by cases h) h38 dJx4a65c_fastRemove_b59b0_38 rfl ?_
  refine xr_null 42 C dJx4a65c_fastRemove_b59b0_41 rfl ?_
  obtain ⟨M42, h42, hf⟩ := mm_bd_e hf
  refine xr_astR 43 C 17 (by decide) h42 dJx4a65c_fastRemove_b59b0_42 rfl ?_
  obtain rfl := Option.some.inj hf
  exact xr_vret C ko ⟨(Nat.le_of_ble_eq_true rfl), (Nat.le_of_ble_eq_true rfl)⟩ dJx4a65c_fastRemove_b59b0_43
noncomputable def f_Jx4a65c_fastRemove_b59b0_22 (M : mm_M) (v0 : Option Nat) (v1 : Option Nat) (v2 : Int32) (v3 : Int32) : Option (mm_M) :=
  none
set_option maxRecDepth 20000 in
theorem w_Jx4a65c_fastRemove_b59b0_22 {g : mm_c} (C : mm_ok g cJx4a65c_fastRemove_b59b0 "java/util/ArrayList" none "fastRemove" 4 0 0 0 0) {M : mm_M} {v0 : Option Nat} {v1 : Option Nat} {v2 : Int32} {v3 : Int32} {res : mm_M} (hf : f_Jx4a65c_fastRemove_b59b0_22 M v0 v1 v2 v3 = some res) (ko : (fun z => mm_q g 0 0 none z) res) : mm_X g 0 0 M 22 [(0, mm_r v0), (1, mm_r v1), (2, mm_i v2), (3, mm_i v3)] [] := by
  unfold f_Jx4a65c_fastRemove_b59b0_22 at hf
  refine xr_aload_n 23 1 C dJx4a65c_fastRemove_b59b0_22 rfl rfl rfl ?_
  refine xr_iload_n 24 2 C dJx4a65c_fastRemove_b59b0_23 rfl rfl rfl ?_
  refine xr_iconst 25 C (v := 1) dJx4a65c_fastRemove_b59b0_24 (by decide) rfl ?_
  refine xr_iadd 26 C dJx4a65c_fastRemove_b59b0_25 rfl ?_
  refine xr_aload_n 27 1 C dJx4a65c_fastRemove_b59b0_26 rfl rfl rfl ?_
  refine xr_iload_n 28 2 C dJx4a65c_fastRemove_b59b0_27 rfl rfl rfl ?_
  refine xr_iload_n 29 3 C dJx4a65c_fastRemove_b59b0_28 rfl rfl rfl ?_
  refine xr_iload_n 30 2 C dJx4a65c_fastRemove_b59b0_29 rfl rfl rfl ?_
  refine xr_isub 31 C dJx4a65c_fastRemove_b59b0_30 rfl ?_
  cases hf
noncomputable def f_Jx4a65c_fastRemove_b59b0_0 (M : mm_M) (v0 : Option Nat) (v1 : Option Nat) (v2 : Int32) : Option (mm_M) :=
  (mm_fI M v0 0 0).bind fun x2 =>
  (mm_pI M v0 0 0 (x2 + 1)).bind fun M7 =>
  (mm_fI M7 v0 0 2).bind fun x11 =>
  if (x11 - 1) ≤ v2 then f_Jx4a65c_fastRemove_b59b0_34 M7 v0 v1 (x11 - 1) else f_Jx4a65c_fastRemove_b59b0_22 M7 v0 v1 v2 (x11 - 1)
set_option maxRecDepth 20000 in
theorem w_Jx4a65c_fastRemove_b59b0_0 {g : mm_c} (C : mm_ok g cJx4a65c_fastRemove_b59b0 "java/util/ArrayList" none "fastRemove" 4 0 0 0 0) {M : mm_M} {v0 : Option Nat} {v1 : Option Nat} {v2 : Int32} {res : mm_M} (hf : f_Jx4a65c_fastRemove_b59b0_0 M v0 v1 v2 = some res) (ko : (fun z => mm_q g 0 0 none z) res) : mm_X g 0 0 M 0 [(0, mm_r v0), (1, mm_r v1), (2, mm_i v2)] [] := by
  unfold f_Jx4a65c_fastRemove_b59b0_0 at hf
  refine xr_aload_n 1 0 C dJx4a65c_fastRemove_b59b0_0 rfl rfl rfl ?_
  refine xr_dup 2 C dJx4a65c_fastRemove_b59b0_1 rfl rfl ?_
  obtain ⟨x2, h2, hf⟩ := mm_bd_e hf
  refine xr_getI 5 C cf_Jx4a65c_63 rfl h2 dJx4a65c_fastRemove_b59b0_2 rfl ?_
  refine xr_iconst 6 C (v := 1) dJx4a65c_fastRemove_b59b0_5 (by decide) rfl ?_
  refine xr_iadd 7 C dJx4a65c_fastRemove_b59b0_6 rfl ?_
  obtain ⟨M7, h7, hf⟩ := mm_bd_e hf
  refine xr_putI 10 C cf_Jx4a65c_63 (fun h => by cases h) h7 dJx4a65c_fastRemove_b59b0_7 rfl ?_
  refine xr_aload_n 11 0 C dJx4a65c_fastRemove_b59b0_10 rfl rfl rfl ?_
  obtain ⟨x11, h11, hf⟩ := mm_bd_e hf
  refine xr_getI 14 C cf_Jx4a65c_48 rfl h11 dJx4a65c_fastRemove_b59b0_11 rfl ?_
  refine xr_iconst 15 C (v := 1) dJx4a65c_fastRemove_b59b0_14 (by decide) rfl ?_
  refine xr_isub 16 C dJx4a65c_fastRemove_b59b0_15 rfl ?_
  refine xr_dup 17 C dJx4a65c_fastRemove_b59b0_16 rfl rfl ?_
  refine xr_istore_n 18 C dJx4a65c_fastRemove_b59b0_17 rfl (by decide) rfl [(3, mm_i (x11 - 1)), (0, mm_r v0), (1, mm_r v1), (2, mm_i v2)] rfl ?_
  refine xr_iload_n 19 3 C dJx4a65c_fastRemove_b59b0_18 rfl rfl rfl ?_
  refine xr_icmp_le 34 22 C dJx4a65c_fastRemove_b59b0_19 (by decide) rfl (fun hc => ?_) (fun hc => ?_)
  · replace hf := (if_pos hc).symm.trans hf
    refine xr_sub [1, 2, 0] (lv2 := [(0, mm_r v0), (1, mm_r v1), (3, mm_i (x11 - 1))]) rfl ?_
    exact w_Jx4a65c_fastRemove_b59b0_34 C hf ko
  · replace hf := (if_neg hc).symm.trans hf
    refine xr_sub [1, 2, 3, 0] (lv2 := [(0, mm_r v0), (1, mm_r v1), (2, mm_i v2), (3, mm_i (x11 - 1))]) rfl ?_
    exact w_Jx4a65c_fastRemove_b59b0_22 C hf ko
noncomputable def f_Jx4a65c_fastRemove_b59b0 (M : mm_M) (v0 : Option Nat) (v1 : Option Nat) (v2 : Int32) : Option (mm_M) := f_Jx4a65c_fastRemove_b59b0_0 M v0 v1 v2
theorem c_Jx4a65c_fastRemove_b59b0 (l : Launch) (G : va_G) (cy : Nat → ClassId) {M : mm_M} {v0 : Option Nat} {v1 : Option Nat} {v2 : Int32} {M1 : mm_M} (hf : f_Jx4a65c_fastRemove_b59b0 M v0 v1 v2 = some M1) : mm_Met l yJx4a65c_fastRemove_b59b0 cJx4a65c_fastRemove_b59b0 4 none 0 0 0 0 G cy [mm_r v0, mm_r v1, mm_i v2] M none M1 :=
  mm_enter (by decide) (Nat.le_of_ble_eq_true rfl) (fun p e R s m args below meth c Q C hq => xr_sub [0, 1, 2] (lv2 := [(0, mm_r v0), (1, mm_r v1), (2, mm_i v2)]) rfl (w_Jx4a65c_fastRemove_b59b0_0 C hf hq))
noncomputable def f_Jx4a65c_remove_915e3_0 (M : mm_M) (v0 : Option Nat) (v1 : Int32) : Option (Option Nat × mm_M) :=
  (mm_fI M v0 0 2).bind fun x2 =>
  (f_J15_checkIndex_7cf53 M v1 x2).bind fun x5 =>
  (mm_fR M v0 0 1).bind fun x10 =>
  (mm_aR M x10 17 v1).bind fun x16 =>
  (mm_rc M v0 0).bind fun u21 =>
  (f_Jx4a65c_fastRemove_b59b0 M v0 x10 v1).bind fun M21 =>
  some (x16, M21)
set_option maxRecDepth 20000 in
theorem w_Jx4a65c_remove_915e3_0 {g : mm_c} (C : mm_ok g cJx4a65c_remove_915e3 "java/util/ArrayList" (some (.object "java/lang/Object")) "remove" 4 2 43 0 0) {M : mm_M} {v0 : Option Nat} {v1 : Int32} {res : Option Nat × mm_M} (hf : f_Jx4a65c_remove_915e3_0 M v0 v1 = some res) (ko : (fun z => mm_q g 0 0 (some (mm_r z.1)) z.2) res) : mm_X g 0 0 M 0 [(0, mm_r v0), (1, mm_i v1)] [] := by
  unfold f_Jx4a65c_remove_915e3_0 at hf
  refine xr_iload_n 1 1 C dJx4a65c_remove_915e3_0 rfl rfl rfl ?_
  refine xr_aload_n 2 0 C dJx4a65c_remove_915e3_1 rfl rfl rfl ?_
  obtain ⟨x2, h2, hf⟩ := mm_bd_e hf
  refine xr_getI 5 C cf_Jx4a65c_48 rfl h2 dJx4a65c_remove_915e3_2 rfl ?_
  obtain ⟨x5, h5, hf⟩ := mm_bd_e hf
  refine xr_callS 8 C [mm_i v1, mm_i x2] cm_Jx4a65c_118 (fun l G cy => c_J15_checkIndex_7cf53 l G cy h5) rfl rfl ⟨⟨Nat.le_of_ble_eq_true rfl, Nat.le_of_ble_eq_true rfl⟩, (Nat.le_of_ble_eq_true rfl), (Nat.le_of_ble_eq_true rfl)⟩ (Nat.le_of_ble_eq_true rfl) dJx4a65c_remove_915e3_5 rfl ?_
  refine xr_pop 9 C dJx4a65c_remove_915e3_8 rfl rfl ?_
  refine xr_aload_n 10 0 C dJx4a65c_remove_915e3_9 rfl rfl rfl ?_
  obtain ⟨x10, h10, hf⟩ := mm_bd_e hf
  refine xr_getR 13 C cf_Jx4a65c_9 rfl h10 dJx4a65c_remove_915e3_10 rfl ?_
  refine xr_astore_n 14 C dJx4a65c_remove_915e3_13 rfl (by decide) rfl [(2, mm_r x10), (0, mm_r v0), (1, mm_i v1)] rfl ?_
  refine xr_aload_n 15 0 C dJx4a65c_remove_915e3_14 rfl rfl rfl ?_
  refine xr_iload_n 16 2 C dJx4a65c_remove_915e3_15 rfl rfl rfl ?_
  obtain ⟨x16, h16, hf⟩ := mm_bd_e hf
  refine xr_aldR 17 C 17 (by decide) h16 dJx4a65c_remove_915e3_16 rfl ?_
  refine xr_astore_n 18 C dJx4a65c_remove_915e3_17 rfl (by decide) rfl [(3, mm_r x16), (2, mm_r x10), (0, mm_r v0), (1, mm_i v1)] rfl ?_
  refine xr_aload_n 19 2 C dJx4a65c_remove_915e3_18 rfl rfl rfl ?_
  refine xr_aload_n 20 1 C dJx4a65c_remove_915e3_19 rfl rfl rfl ?_
  refine xr_iload_n 21 3 C dJx4a65c_remove_915e3_20 rfl rfl rfl ?_
  obtain ⟨u21, g21, hf⟩ := mm_bd_e hf
  obtain ⟨M21, h21, hf⟩ := mm_bd_e hf
  refine xr_callV 24 C [mm_r x10, mm_i v1] cm_Jx4a65c_144 (fun l G cy => c_Jx4a65c_fastRemove_b59b0 l G cy h21) g21 rfl rfl ⟨⟨Nat.le_of_ble_eq_true rfl, Nat.le_of_ble_eq_true rfl⟩, (Nat.le_of_ble_eq_true rfl), (Nat.le_of_ble_eq_true rfl)⟩ (Nat.le_of_ble_eq_true rfl) dJx4a65c_remove_915e3_21 rfl ?_
  refine xr_aload_n 25 0 C dJx4a65c_remove_915e3_24 rfl rfl rfl ?_
  obtain rfl := Option.some.inj hf
  exact xr_aret (by first | exact Or.inl ⟨_, rfl⟩ | exact Or.inr ⟨_, rfl⟩) C ko ⟨(Nat.le_of_ble_eq_true rfl), (Nat.le_of_ble_eq_true rfl)⟩ dJx4a65c_remove_915e3_25
noncomputable def f_Jx4a65c_remove_915e3 (M : mm_M) (v0 : Option Nat) (v1 : Int32) : Option (Option Nat × mm_M) := f_Jx4a65c_remove_915e3_0 M v0 v1
theorem c_Jx4a65c_remove_915e3 (l : Launch) (G : va_G) (cy : Nat → ClassId) {M : mm_M} {v0 : Option Nat} {v1 : Int32} {r : Option Nat} {M1 : mm_M} (hf : f_Jx4a65c_remove_915e3 M v0 v1 = some (r, M1)) : mm_Met l yJx4a65c_remove_915e3 cJx4a65c_remove_915e3 4 (some (.object "java/lang/Object")) 2 43 0 0 G cy [mm_r v0, mm_i v1] M (some (mm_r r)) M1 :=
  mm_enter (by decide) (Nat.le_of_ble_eq_true rfl) (fun p e R s m args below meth c Q C hq => xr_sub [0, 1] (lv2 := [(0, mm_r v0), (1, mm_i v1)]) rfl (w_Jx4a65c_remove_915e3_0 C hf hq))
