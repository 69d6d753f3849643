noncomputable def f_X9_undo_10 (M : mm_M) : Option (Int32 × mm_M) :=
  some ((-4), M)
set_option maxRecDepth 20000 in
theorem w_X9_undo_10 {g : mm_c} (C : mm_ok g cX9_undo "LessonCards" (some .int) "undo" 4 5 107 0 0) {M : mm_M} {res : Int32 × mm_M} (hf : f_X9_undo_10 M = some res) (ko : (fun z => mm_q g 0 0 (some (mm_i z.1)) z.2) res) : mm_X g 0 0 M 10 [] [] := by
  unfold f_X9_undo_10 at hf
  refine xr_bipush 12 C (v := (-4)) dX9_undo_10 (by decide) rfl ?_
  obtain rfl := Option.some.inj hf
  exact xr_iret C ko ⟨(Nat.le_of_ble_eq_true rfl), (Nat.le_of_ble_eq_true rfl)⟩ dX9_undo_12
noncomputable def f_X9_undo_72 (M : mm_M) (v0 : Option Nat) : Option (Int32 × mm_M) :=
  (mm_fR M v0 10 4).bind fun x73 =>
  (mm_rc M x73 0).bind fun u76 =>
  (f_Jx4a65c_size_8abf5 M x73).bind fun x76 =>
  some (x76, M)
set_option maxRecDepth 20000 in
theorem w_X9_undo_72 {g : mm_c} (C : mm_ok g cX9_undo "LessonCards" (some .int) "undo" 4 5 107 0 0) {M : mm_M} {v0 : Option Nat} {res : Int32 × mm_M} (hf : f_X9_undo_72 M v0 = some res) (ko : (fun z => mm_q g 0 0 (some (mm_i z.1)) z.2) res) : mm_X g 0 0 M 72 [(0, mm_r v0)] [] := by
  unfold f_X9_undo_72 at hf
  refine xr_aload_n 73 0 C dX9_undo_72 rfl rfl rfl ?_
  obtain ⟨x73, h73, hf⟩ := mm_bd_e hf
  refine xr_getR 76 C cf_X9_37 rfl h73 dX9_undo_73 rfl ?_
  obtain ⟨u76, g76, hf⟩ := mm_bd_e hf
  obtain ⟨x76, h76, hf⟩ := mm_bd_e hf
  refine xr_callV 79 C [] cm_X9_128 (fun l G cy => c_Jx4a65c_size_8abf5 l G cy h76) g76 rfl rfl ⟨⟨Nat.le_of_ble_eq_true rfl, Nat.le_of_ble_eq_true rfl⟩, (Nat.le_of_ble_eq_true rfl), (Nat.le_of_ble_eq_true rfl)⟩ (Nat.le_of_ble_eq_true rfl) dX9_undo_76 rfl ?_
  obtain rfl := Option.some.inj hf
  exact xr_iret C ko ⟨(Nat.le_of_ble_eq_true rfl), (Nat.le_of_ble_eq_true rfl)⟩ dX9_undo_79
noncomputable def f_X9_undo_67 (M : mm_M) (v0 : Option Nat) (v2 : Option Nat) : Option (Int32 × mm_M) :=
  (mm_pI M v2 7 2 0).bind fun M69 =>
  f_X9_undo_72 M69 v0
set_option maxRecDepth 20000 in
theorem w_X9_undo_67 {g : mm_c} (C : mm_ok g cX9_undo "LessonCards" (some .int) "undo" 4 5 107 0 0) {M : mm_M} {v0 : Option Nat} {v2 : Option Nat} {res : Int32 × mm_M} (hf : f_X9_undo_67 M v0 v2 = some res) (ko : (fun z => mm_q g 0 0 (some (mm_i z.1)) z.2) res) : mm_X g 0 0 M 67 [(0, mm_r v0), (2, mm_r v2)] [] := by
  unfold f_X9_undo_67 at hf
  refine xr_aload_n 68 1 C dX9_undo_67 rfl rfl rfl ?_
  refine xr_iconst 69 C (v := 0) dX9_undo_68 (by decide) rfl ?_
  obtain ⟨M69, h69, hf⟩ := mm_bd_e hf
  refine xr_putI 72 C cf_X9_114 (fun h => by cases h) h69 dX9_undo_69 rfl ?_
  refine xr_sub [0] (lv2 := [(0, mm_r v0)]) rfl ?_
  exact w_X9_undo_72 C hf ko
noncomputable def f_X9_undo_59 (M : mm_M) (v0 : Option Nat) (v1 : Option Nat) (v2 : Option Nat) (v3 : Option Nat) : Option (Int32 × mm_M) :=
  (mm_fR M v1 4 6).bind fun x61 =>
  (mm_rc M v3 9).bind fun u64 =>
  (f_X8_become M v3 x61).bind fun M64 =>
  f_X9_undo_67 M64 v0 v2
set_option maxRecDepth 20000 in
theorem w_X9_undo_59 {g : mm_c} (C : mm_ok g cX9_undo "LessonCards" (some .int) "undo" 4 5 107 0 0) {M : mm_M} {v0 : Option Nat} {v1 : Option Nat} {v2 : Option Nat} {v3 : Option Nat} {res : Int32 × mm_M} (hf : f_X9_undo_59 M v0 v1 v2 v3 = some res) (ko : (fun z => mm_q g 0 0 (some (mm_i z.1)) z.2) res) : mm_X g 0 0 M 59 [(0, mm_r v0), (1, mm_r v1), (2, mm_r v2), (3, mm_r v3)] [] := by
  unfold f_X9_undo_59 at hf
  refine xr_aload_n 60 3 C dX9_undo_59 rfl rfl rfl ?_
  refine xr_aload_n 61 1 C dX9_undo_60 rfl rfl rfl ?_
  obtain ⟨x61, h61, hf⟩ := mm_bd_e hf
  refine xr_getR 64 C cf_X9_190 rfl h61 dX9_undo_61 rfl ?_
  obtain ⟨u64, g64, hf⟩ := mm_bd_e hf
  obtain ⟨M64, h64, hf⟩ := mm_bd_e hf
  refine xr_callV 67 C [mm_r x61] cm_X9_194 (fun l G cy => c_X8_become l G cy h64) g64 rfl rfl ⟨⟨Nat.le_of_ble_eq_true rfl, Nat.le_of_ble_eq_true rfl⟩, (Nat.le_of_ble_eq_true rfl), (Nat.le_of_ble_eq_true rfl)⟩ (Nat.le_of_ble_eq_true rfl) dX9_undo_64 rfl ?_
  refine xr_sub [0, 2] (lv2 := [(0, mm_r v0), (2, mm_r v2)]) rfl ?_
  exact w_X9_undo_67 C hf ko
noncomputable def f_X9_undo_46 (M : mm_M) (v0 : Option Nat) (v1 : Option Nat) (v2 : Option Nat) : Option (Int32 × mm_M) :=
  (mm_fI M v1 4 1).bind fun x48 =>
  (mm_rc M v2 7).bind fun u51 =>
  (f_X6_memoryAt M v2 x48).bind fun x51 =>
  if x51 = none then f_X9_undo_67 M v0 v2 else f_X9_undo_59 M v0 v1 v2 x51
set_option maxRecDepth 20000 in
theorem w_X9_undo_46 {g : mm_c} (C : mm_ok g cX9_undo "LessonCards" (some .int) "undo" 4 5 107 0 0) {M : mm_M} {v0 : Option Nat} {v1 : Option Nat} {v2 : Option Nat} {res : Int32 × mm_M} (hf : f_X9_undo_46 M v0 v1 v2 = some res) (ko : (fun z => mm_q g 0 0 (some (mm_i z.1)) z.2) res) : mm_X g 0 0 M 46 [(0, mm_r v0), (1, mm_r v1), (2, mm_r v2)] [] := by
  unfold f_X9_undo_46 at hf
  refine xr_aload_n 47 2 C dX9_undo_46 rfl rfl rfl ?_
  refine xr_aload_n 48 1 C dX9_undo_47 rfl rfl rfl ?_
  obtain ⟨x48, h48, hf⟩ := mm_bd_e hf
  refine xr_getI 51 C cf_X9_187 rfl h48 dX9_undo_48 rfl ?_
  obtain ⟨u51, g51, hf⟩ := mm_bd_e hf
  obtain ⟨x51, h51, hf⟩ := mm_bd_e hf
  refine xr_callV 54 C [mm_i x48] cm_X9_129 (fun l G cy => c_X6_memoryAt l G cy h51) g51 rfl rfl ⟨⟨Nat.le_of_ble_eq_true rfl, Nat.le_of_ble_eq_true rfl⟩, (Nat.le_of_ble_eq_true rfl), (Nat.le_of_ble_eq_true rfl)⟩ (Nat.le_of_ble_eq_true rfl) dX9_undo_51 rfl ?_
  refine xr_astore_n 55 C dX9_undo_54 rfl (by decide) rfl [(3, mm_r x51), (0, mm_r v0), (1, mm_r v1), (2, mm_r v2)] rfl ?_
  refine xr_aload_n 56 0 C dX9_undo_55 rfl rfl rfl ?_
  refine xr_ifnull 67 59 C dX9_undo_56 (by decide) rfl (fun hc => ?_) (fun hc => ?_)
  · replace hf := (if_pos hc).symm.trans hf
    refine xr_sub [1, 3] (lv2 := [(0, mm_r v0), (2, mm_r v2)]) rfl ?_
    exact w_X9_undo_67 C hf ko
  · replace hf := (if_neg hc).symm.trans hf
    refine xr_sub [1, 2, 3, 0] (lv2 := [(0, mm_r v0), (1, mm_r v1), (2, mm_r v2), (3, mm_r x51)]) rfl ?_
    exact w_X9_undo_59 C hf ko
noncomputable def f_X9_undo_13 (M : mm_M) (v0 : Option Nat) : Option (Int32 × mm_M) :=
  (mm_fR M v0 10 4).bind fun x14 =>
  (mm_fR M v0 10 4).bind fun x18 =>
  (mm_rc M x18 0).bind fun u21 =>
  (f_Jx4a65c_size_8abf5 M x18).bind fun x21 =>
  (mm_rc M x14 0).bind fun u26 =>
  mm_b2 (f_Jx4a65c_remove_915e3 M x14 (x21 - 1)) fun x26 M26 =>
  (mm_cc M26 x26 4).bind fun u29 =>
  (mm_fI M26 x26 4 0).bind fun x35 =>
  (mm_rc M26 v0 10).bind fun u38 =>
  (f_X9_learnerAt M26 v0 x35).bind fun x38 =>
  if x38 = none then f_X9_undo_72 M26 v0 else f_X9_undo_46 M26 v0 x26 x38
set_option maxRecDepth 20000 in
theorem w_X9_undo_13 {g : mm_c} (C : mm_ok g cX9_undo "LessonCards" (some .int) "undo" 4 5 107 0 0) {M : mm_M} {v0 : Option Nat} {res : Int32 × mm_M} (hf : f_X9_undo_13 M v0 = some res) (ko : (fun z => mm_q g 0 0 (some (mm_i z.1)) z.2) res) : mm_X g 0 0 M 13 [(0, mm_r v0)] [] := by
  unfold f_X9_undo_13 at hf
  refine xr_aload_n 14 0 C dX9_undo_13 rfl rfl rfl ?_
  obtain ⟨x14, h14, hf⟩ := mm_bd_e hf
  refine xr_getR 17 C cf_X9_37 rfl h14 dX9_undo_14 rfl ?_
  refine xr_aload_n 18 0 C dX9_undo_17 rfl rfl rfl ?_
  obtain ⟨x18, h18, hf⟩ := mm_bd_e hf
  refine xr_getR 21 C cf_X9_37 rfl h18 dX9_undo_18 rfl ?_
  obtain ⟨u21, g21, hf⟩ := mm_bd_e hf
  obtain ⟨x21, h21, hf⟩ := mm_bd_e hf
  refine xr_callV 24 C [] cm_X9_128 (fun l G cy => c_Jx4a65c_size_8abf5 l G cy h21) g21 rfl rfl ⟨⟨Nat.le_of_ble_eq_true rfl, Nat.le_of_ble_eq_true rfl⟩, (Nat.le_of_ble_eq_true rfl), (Nat.le_of_ble_eq_true rfl)⟩ (Nat.le_of_ble_eq_true rfl) dX9_undo_21 rfl ?_
  refine xr_iconst 25 C (v := 1) dX9_undo_24 (by decide) rfl ?_
  refine xr_isub 26 C dX9_undo_25 rfl ?_
  obtain ⟨u26, g26, hf⟩ := mm_bd_e hf
  obtain ⟨x26, M26, h26, hf⟩ := mm_b2_e hf
  refine xr_callV 29 C [mm_i (x21 - 1)] cm_X9_180 (fun l G cy => c_Jx4a65c_remove_915e3 l G cy h26) g26 rfl rfl ⟨⟨Nat.le_of_ble_eq_true rfl, Nat.le_of_ble_eq_true rfl⟩, (Nat.le_of_ble_eq_true rfl), (Nat.le_of_ble_eq_true rfl)⟩ (Nat.le_of_ble_eq_true rfl) dX9_undo_26 rfl ?_
  obtain ⟨u29, h29, hf⟩ := mm_bd_e hf
  refine xr_cast 32 C (ci := 4) rfl (by decide) wd_572 h29 dX9_undo_29 rfl ?_
  refine xr_astore_n 33 C dX9_undo_32 rfl (by decide) rfl [(1, mm_r x26), (0, mm_r v0)] rfl ?_
  refine xr_aload_n 34 1 C dX9_undo_33 rfl rfl rfl ?_
  refine xr_aload_n 35 0 C dX9_undo_34 rfl rfl rfl ?_
  obtain ⟨x35, h35, hf⟩ := mm_bd_e hf
  refine xr_getI 38 C cf_X9_184 rfl h35 dX9_undo_35 rfl ?_
  obtain ⟨u38, g38, hf⟩ := mm_bd_e hf
  obtain ⟨x38, h38, hf⟩ := mm_bd_e hf
  refine xr_callV 41 C [mm_i x35] cm_X9_104 (fun l G cy => c_X9_learnerAt l G cy h38) g38 rfl rfl ⟨⟨Nat.le_of_ble_eq_true rfl, Nat.le_of_ble_eq_true rfl⟩, (Nat.le_of_ble_eq_true rfl), (Nat.le_of_ble_eq_true rfl)⟩ (Nat.le_of_ble_eq_true rfl) dX9_undo_38 rfl ?_
  refine xr_astore_n 42 C dX9_undo_41 rfl (by decide) rfl [(2, mm_r x38), (1, mm_r x26), (0, mm_r v0)] rfl ?_
  refine xr_aload_n 43 0 C dX9_undo_42 rfl rfl rfl ?_
  refine xr_ifnull 72 46 C dX9_undo_43 (by decide) rfl (fun hc => ?_) (fun hc => ?_)
  · replace hf := (if_pos hc).symm.trans hf
    refine xr_sub [2] (lv2 := [(0, mm_r v0)]) rfl ?_
    exact w_X9_undo_72 C hf ko
  · replace hf := (if_neg hc).symm.trans hf
    refine xr_sub [2, 1, 0] (lv2 := [(0, mm_r v0), (1, mm_r x26), (2, mm_r x38)]) rfl ?_
    exact w_X9_undo_46 C hf ko
noncomputable def f_X9_undo_0 (M : mm_M) (v0 : Option Nat) : Option (Int32 × mm_M) :=
  (mm_fR M v0 10 4).bind fun x1 =>
  (mm_rc M x1 0).bind fun u4 =>
  (f_Jx4a65c_isEmpty_aae02 M x1).bind fun x4 =>
  if x4 = 0 then f_X9_undo_13 M v0 else f_X9_undo_10 M
set_option maxRecDepth 20000 in
theorem w_X9_undo_0 {g : mm_c} (C : mm_ok g cX9_undo "LessonCards" (some .int) "undo" 4 5 107 0 0) {M : mm_M} {v0 : Option Nat} {res : Int32 × mm_M} (hf : f_X9_undo_0 M v0 = some res) (ko : (fun z => mm_q g 0 0 (some (mm_i z.1)) z.2) res) : mm_X g 0 0 M 0 [(0, mm_r v0)] [] := by
  unfold f_X9_undo_0 at hf
  refine xr_aload_n 1 0 C dX9_undo_0 rfl rfl rfl ?_
  obtain ⟨x1, h1, hf⟩ := mm_bd_e hf
  refine xr_getR 4 C cf_X9_37 rfl h1 dX9_undo_1 rfl ?_
  obtain ⟨u4, g4, hf⟩ := mm_bd_e hf
  obtain ⟨x4, h4, hf⟩ := mm_bd_e hf
  refine xr_callV 7 C [] cm_X9_177 (fun l G cy => c_Jx4a65c_isEmpty_aae02 l G cy h4) g4 rfl rfl ⟨⟨Nat.le_of_ble_eq_true rfl, Nat.le_of_ble_eq_true rfl⟩, (Nat.le_of_ble_eq_true rfl), (Nat.le_of_ble_eq_true rfl)⟩ (Nat.le_of_ble_eq_true rfl) dX9_undo_4 rfl ?_
  refine xr_if_eq 13 10 C dX9_undo_7 (by decide) rfl (fun hc => ?_) (fun hc => ?_)
  · replace hf := (if_pos hc).symm.trans hf
    exact w_X9_undo_13 C hf ko
  · replace hf := (if_neg hc).symm.trans hf
    refine xr_sub [] (lv2 := []) rfl ?_
    exact w_X9_undo_10 C hf ko
noncomputable def f_X9_undo (M : mm_M) (v0 : Option Nat) : Option (Int32 × mm_M) := f_X9_undo_0 M v0
theorem c_X9_undo (l : Launch) (G : va_G) (cy : Nat → ClassId) {M : mm_M} {v0 : Option Nat} {r : Int32} {M1 : mm_M} (hf : f_X9_undo M v0 = some (r, M1)) : mm_Met l yX9_undo cX9_undo 4 (some .int) 5 107 0 0 G cy [mm_r v0] M (some (mm_i r)) M1 :=
  mm_enter (by decide) (Nat.le_of_ble_eq_true rfl) (fun p e R s m args below meth c Q C hq => xr_sub [0] (lv2 := [(0, mm_r v0)]) rfl (w_X9_undo_0 C hf hq))
noncomputable def f_X9_memory_38 (M : mm_M) : Option (Int32) :=
  some (-2)
set_option maxRecDepth 20000 in
theorem w_X9_memory_38 {g : mm_c} (C : mm_ok g cX9_memory "LessonCards" (some .int) "memory" 7 6 132 0 0) {M : mm_M} {res : Int32} (hf : f_X9_memory_38 M = some res) (ko : (fun z => mm_q g 0 0 (some (mm_i z)) M) res) : mm_X g 0 0 M 38 [] [] := by
  unfold f_X9_memory_38 at hf
  refine xr_bipush 40 C (v := (-2)) dX9_memory_38 (by decide) rfl ?_
  obtain rfl := Option.some.inj hf
  exact xr_iret C ko ⟨(Nat.le_of_ble_eq_true rfl), (Nat.le_of_ble_eq_true rfl)⟩ dX9_memory_40
noncomputable def f_X9_memory_73 (M : mm_M) (s0 : Int32) : Option (Int32) :=
  some s0
set_option maxRecDepth 20000 in
theorem w_X9_memory_73 {g : mm_c} (C : mm_ok g cX9_memory "LessonCards" (some .int) "memory" 7 6 132 0 0) {M : mm_M} {s0 : Int32} {res : Int32} (hf : f_X9_memory_73 M s0 = some res) (ko : (fun z => mm_q g 0 0 (some (mm_i z)) M) res) : mm_X g 0 0 M 73 [] [mm_i s0] := by
  unfold f_X9_memory_73 at hf
  obtain rfl := Option.some.inj hf
  exact xr_iret C ko ⟨(Nat.le_of_ble_eq_true rfl), (Nat.le_of_ble_eq_true rfl)⟩ dX9_memory_73
noncomputable def f_X9_memory_47 (M : mm_M) (v4 : Int32) (v6 : Option Nat) : Option (Int32) :=
  (mm_rc M v6 9).bind fun u51 =>
  (f_X8_tell M v6 v4).bind fun x51 =>
  f_X9_memory_73 M x51
set_option maxRecDepth 20000 in
theorem w_X9_memory_47 {g : mm_c} (C : mm_ok g cX9_memory "LessonCards" (some .int) "memory" 7 6 132 0 0) {M : mm_M} {v4 : Int32} {v6 : Option Nat} {res : Int32} (hf : f_X9_memory_47 M v4 v6 = some res) (ko : (fun z => mm_q g 0 0 (some (mm_i z)) M) res) : mm_X g 0 0 M 47 [(4, mm_i v4), (6, mm_r v6)] [] := by
  unfold f_X9_memory_47 at hf
  refine xr_aload 49 1 C dX9_memory_47 rfl rfl ?_
  refine xr_iload 51 0 C dX9_memory_49 rfl rfl ?_
  obtain ⟨u51, g51, hf⟩ := mm_bd_e hf
  obtain ⟨x51, h51, hf⟩ := mm_bd_e hf
  refine xr_callV 54 C [mm_i v4] cm_X9_198 (fun l G cy => c_X8_tell l G cy h51) g51 rfl rfl ⟨⟨Nat.le_of_ble_eq_true rfl, Nat.le_of_ble_eq_true rfl⟩, (Nat.le_of_ble_eq_true rfl), (Nat.le_of_ble_eq_true rfl)⟩ (Nat.le_of_ble_eq_true rfl) dX9_memory_51 rfl ?_
  refine xr_goto 73 C dX9_memory_54 (by decide) ?_
  refine xr_sub [] (lv2 := []) rfl ?_
  exact w_X9_memory_73 C hf ko
noncomputable def f_X9_memory_57 (M : mm_M) (v0 : Option Nat) (v4 : Int32) (v5 : Option Nat) (v6 : Option Nat) : Option (Int32) :=
  (mm_fI M v5 7 3).bind fun x63 =>
  (mm_fR M v0 10 0).bind fun x67 =>
  (mm_rc M v6 9).bind fun u70 =>
  (f_X8_tellOn M v6 v4 x63 x67).bind fun x70 =>
  f_X9_memory_73 M x70
set_option maxRecDepth 20000 in
theorem w_X9_memory_57 {g : mm_c} (C : mm_ok g cX9_memory "LessonCards" (some .int) "memory" 7 6 132 0 0) {M : mm_M} {v0 : Option Nat} {v4 : Int32} {v5 : Option Nat} {v6 : Option Nat} {res : Int32} (hf : f_X9_memory_57 M v0 v4 v5 v6 = some res) (ko : (fun z => mm_q g 0 0 (some (mm_i z)) M) res) : mm_X g 0 0 M 57 [(0, mm_r v0), (4, mm_i v4), (5, mm_r v5), (6, mm_r v6)] [] := by
  unfold f_X9_memory_57 at hf
  refine xr_aload 59 3 C dX9_memory_57 rfl rfl ?_
  refine xr_iload 61 1 C dX9_memory_59 rfl rfl ?_
  refine xr_aload 63 2 C dX9_memory_61 rfl rfl ?_
  obtain ⟨x63, h63, hf⟩ := mm_bd_e hf
  refine xr_getI 66 C cf_X9_108 rfl h63 dX9_memory_63 rfl ?_
  refine xr_aload_n 67 0 C dX9_memory_66 rfl rfl rfl ?_
  obtain ⟨x67, h67, hf⟩ := mm_bd_e hf
  refine xr_getR 70 C cf_X9_12 rfl h67 dX9_memory_67 rfl ?_
  obtain ⟨u70, g70, hf⟩ := mm_bd_e hf
  obtain ⟨x70, h70, hf⟩ := mm_bd_e hf
  refine xr_callV 73 C [mm_i v4, mm_i x63, mm_r x67] cm_X9_201 (fun l G cy => c_X8_tellOn l G cy h70) g70 rfl rfl ⟨⟨Nat.le_of_ble_eq_true rfl, Nat.le_of_ble_eq_true rfl⟩, (Nat.le_of_ble_eq_true rfl), (Nat.le_of_ble_eq_true rfl)⟩ (Nat.le_of_ble_eq_true rfl) dX9_memory_70 rfl ?_
  refine xr_sub [] (lv2 := []) rfl ?_
  exact w_X9_memory_73 C hf ko
noncomputable def f_X9_memory_41 (M : mm_M) (v0 : Option Nat) (v4 : Int32) (v5 : Option Nat) (v6 : Option Nat) : Option (Int32) :=
  if 5 ≤ v4 then f_X9_memory_57 M v0 v4 v5 v6 else f_X9_memory_47 M v4 v6
set_option maxRecDepth 20000 in
theorem w_X9_memory_41 {g : mm_c} (C : mm_ok g cX9_memory "LessonCards" (some .int) "memory" 7 6 132 0 0) {M : mm_M} {v0 : Option Nat} {v4 : Int32} {v5 : Option Nat} {v6 : Option Nat} {res : Int32} (hf : f_X9_memory_41 M v0 v4 v5 v6 = some res) (ko : (fun z => mm_q g 0 0 (some (mm_i z)) M) res) : mm_X g 0 0 M 41 [(0, mm_r v0), (4, mm_i v4), (5, mm_r v5), (6, mm_r v6)] [] := by
  unfold f_X9_memory_41 at hf
  refine xr_iload 43 1 C dX9_memory_41 rfl rfl ?_
  refine xr_iconst 44 C (v := 5) dX9_memory_43 (by decide) rfl ?_
  refine xr_icmp_ge 57 47 C dX9_memory_44 (by decide) rfl (fun hc => ?_) (fun hc => ?_)
  · replace hf := (if_pos hc).symm.trans hf
    exact w_X9_memory_57 C hf ko
  · replace hf := (if_neg hc).symm.trans hf
    refine xr_sub [1, 3] (lv2 := [(4, mm_i v4), (6, mm_r v6)]) rfl ?_
    exact w_X9_memory_47 C hf ko
noncomputable def f_X9_memory_31 (M : mm_M) (v0 : Option Nat) (v4 : Int32) (v5 : Option Nat) (v6 : Option Nat) : Option (Int32) :=
  if v4 ≤ 9 then f_X9_memory_41 M v0 v4 v5 v6 else f_X9_memory_38 M
set_option maxRecDepth 20000 in
theorem w_X9_memory_31 {g : mm_c} (C : mm_ok g cX9_memory "LessonCards" (some .int) "memory" 7 6 132 0 0) {M : mm_M} {v0 : Option Nat} {v4 : Int32} {v5 : Option Nat} {v6 : Option Nat} {res : Int32} (hf : f_X9_memory_31 M v0 v4 v5 v6 = some res) (ko : (fun z => mm_q g 0 0 (some (mm_i z)) M) res) : mm_X g 0 0 M 31 [(0, mm_r v0), (4, mm_i v4), (5, mm_r v5), (6, mm_r v6)] [] := by
  unfold f_X9_memory_31 at hf
  refine xr_iload 33 1 C dX9_memory_31 rfl rfl ?_
  refine xr_bipush 35 C (v := 9) dX9_memory_33 (by decide) rfl ?_
  refine xr_icmp_le 41 38 C dX9_memory_35 (by decide) rfl (fun hc => ?_) (fun hc => ?_)
  · replace hf := (if_pos hc).symm.trans hf
    exact w_X9_memory_41 C hf ko
  · replace hf := (if_neg hc).symm.trans hf
    refine xr_sub [] (lv2 := []) rfl ?_
    exact w_X9_memory_38 C hf ko
noncomputable def f_X9_memory_26 (M : mm_M) (v0 : Option Nat) (v4 : Int32) (v5 : Option Nat) (v6 : Option Nat) : Option (Int32) :=
  if v4 < 0 then f_X9_memory_38 M else f_X9_memory_31 M v0 v4 v5 v6
set_option maxRecDepth 20000 in
theorem w_X9_memory_26 {g : mm_c} (C : mm_ok g cX9_memory "LessonCards" (some .int) "memory" 7 6 132 0 0) {M : mm_M} {v0 : Option Nat} {v4 : Int32} {v5 : Option Nat} {v6 : Option Nat} {res : Int32} (hf : f_X9_memory_26 M v0 v4 v5 v6 = some res) (ko : (fun z => mm_q g 0 0 (some (mm_i z)) M) res) : mm_X g 0 0 M 26 [(0, mm_r v0), (4, mm_i v4), (5, mm_r v5), (6, mm_r v6)] [] := by
  unfold f_X9_memory_26 at hf
  refine xr_iload 28 1 C dX9_memory_26 rfl rfl ?_
  refine xr_if_lt 38 31 C dX9_memory_28 (by decide) rfl (fun hc => ?_) (fun hc => ?_)
  · replace hf := (if_pos hc).symm.trans hf
    refine xr_sub [] (lv2 := []) rfl ?_
    exact w_X9_memory_38 C hf ko
  · replace hf := (if_neg hc).symm.trans hf
    exact w_X9_memory_31 C hf ko
noncomputable def f_X9_memory_21 (M : mm_M) (v0 : Option Nat) (v4 : Int32) (v5 : Option Nat) (v6 : Option Nat) : Option (Int32) :=
  if v6 = none then f_X9_memory_38 M else f_X9_memory_26 M v0 v4 v5 v6
set_option maxRecDepth 20000 in
theorem w_X9_memory_21 {g : mm_c} (C : mm_ok g cX9_memory "LessonCards" (some .int) "memory" 7 6 132 0 0) {M : mm_M} {v0 : Option Nat} {v4 : Int32} {v5 : Option Nat} {v6 : Option Nat} {res : Int32} (hf : f_X9_memory_21 M v0 v4 v5 v6 = some res) (ko : (fun z => mm_q g 0 0 (some (mm_i z)) M) res) : mm_X g 0 0 M 21 [(0, mm_r v0), (4, mm_i v4), (5, mm_r v5), (6, mm_r v6)] [] := by
  unfold f_X9_memory_21 at hf
  refine xr_aload 23 3 C dX9_memory_21 rfl rfl ?_
  refine xr_ifnull 38 26 C dX9_memory_23 (by decide) rfl (fun hc => ?_) (fun hc => ?_)
  · replace hf := (if_pos hc).symm.trans hf
    refine xr_sub [] (lv2 := []) rfl ?_
    exact w_X9_memory_38 C hf ko
  · replace hf := (if_neg hc).symm.trans hf
    exact w_X9_memory_26 C hf ko
noncomputable def f_X9_memory_0 (M : mm_M) (v0 : Option Nat) (v1 : Int32) (v2 : Int32) (v3 : Int32) (v4 : Int32) : Option (Int32) :=
  (mm_rc M v0 10).bind fun u2 =>
  (f_X9_learnerAt M v0 v1).bind fun x2 =>
  (mm_rc M v0 10).bind fun u11 =>
  (f_X9_memoryOf M v0 v1 v2 v3).bind fun x11 =>
  if x2 = none then f_X9_memory_38 M else f_X9_memory_21 M v0 v4 x2 x11
set_option maxRecDepth 20000 in
theorem w_X9_memory_0 {g : mm_c} (C : mm_ok g cX9_memory "LessonCards" (some .int) "memory" 7 6 132 0 0) {M : mm_M} {v0 : Option Nat} {v1 : Int32} {v2 : Int32} {v3 : Int32} {v4 : Int32} {res : Int32} (hf : f_X9_memory_0 M v0 v1 v2 v3 v4 = some res) (ko : (fun z => mm_q g 0 0 (some (mm_i z)) M) res) : mm_X g 0 0 M 0 [(0, mm_r v0), (1, mm_i v1), (2, mm_i v2), (3, mm_i v3), (4, mm_i v4)] [] := by
  unfold f_X9_memory_0 at hf
  refine xr_aload_n 1 0 C dX9_memory_0 rfl rfl rfl ?_
  refine xr_iload_n 2 1 C dX9_memory_1 rfl rfl rfl ?_
  obtain ⟨u2, g2, hf⟩ := mm_bd_e hf
  obtain ⟨x2, h2, hf⟩ := mm_bd_e hf
  refine xr_callV 5 C [mm_i v1] cm_X9_104 (fun l G cy => c_X9_learnerAt l G cy h2) g2 rfl rfl ⟨⟨Nat.le_of_ble_eq_true rfl, Nat.le_of_ble_eq_true rfl⟩, (Nat.le_of_ble_eq_true rfl), (Nat.le_of_ble_eq_true rfl)⟩ (Nat.le_of_ble_eq_true rfl) dX9_memory_2 rfl ?_
  refine xr_astore 7 C dX9_memory_5 (by decide) rfl [(5, mm_r x2), (0, mm_r v0), (1, mm_i v1), (2, mm_i v2), (3, mm_i v3), (4, mm_i v4)] rfl ?_
  refine xr_aload_n 8 1 C dX9_memory_7 rfl rfl rfl ?_
  refine xr_iload_n 9 2 C dX9_memory_8 rfl rfl rfl ?_
  refine xr_iload_n 10 3 C dX9_memory_9 rfl rfl rfl ?_
  refine xr_iload_n 11 4 C dX9_memory_10 rfl rfl rfl ?_
  obtain ⟨u11, g11, hf⟩ := mm_bd_e hf
  obtain ⟨x11, h11, hf⟩ := mm_bd_e hf
  refine xr_callV 14 C [mm_i v1, mm_i v2, mm_i v3] cm_X9_162 (fun l G cy => c_X9_memoryOf l G cy h11) g11 rfl rfl ⟨⟨Nat.le_of_ble_eq_true rfl, Nat.le_of_ble_eq_true rfl⟩, (Nat.le_of_ble_eq_true rfl), (Nat.le_of_ble_eq_true rfl)⟩ (Nat.le_of_ble_eq_true rfl) dX9_memory_11 rfl ?_
  refine xr_astore 16 C dX9_memory_14 (by decide) rfl [(6, mm_r x11), (5, mm_r x2), (0, mm_r v0), (1, mm_i v1), (2, mm_i v2), (3, mm_i v3), (4, mm_i v4)] rfl ?_
  refine xr_aload 18 1 C dX9_memory_16 rfl rfl ?_
  refine xr_ifnull 38 21 C dX9_memory_18 (by decide) rfl (fun hc => ?_) (fun hc => ?_)
  · replace hf := (if_pos hc).symm.trans hf
    refine xr_sub [] (lv2 := []) rfl ?_
    exact w_X9_memory_38 C hf ko
  · replace hf := (if_neg hc).symm.trans hf
    refine xr_sub [2, 6, 1, 0] (lv2 := [(0, mm_r v0), (4, mm_i v4), (5, mm_r x2), (6, mm_r x11)]) rfl ?_
    exact w_X9_memory_21 C hf ko
noncomputable def f_X9_memory (M : mm_M) (v0 : Option Nat) (v1 : Int32) (v2 : Int32) (v3 : Int32) (v4 : Int32) : Option (Int32) := f_X9_memory_0 M v0 v1 v2 v3 v4
theorem c_X9_memory (l : Launch) (G : va_G) (cy : Nat → ClassId) {M : mm_M} {v0 : Option Nat} {v1 : Int32} {v2 : Int32} {v3 : Int32} {v4 : Int32} {r : Int32} (hf : f_X9_memory M v0 v1 v2 v3 v4 = some r) : mm_Met l yX9_memory cX9_memory 7 (some .int) 6 132 0 0 G cy [mm_r v0, mm_i v1, mm_i v2, mm_i v3, mm_i v4] M (some (mm_i r)) M :=
  mm_enter (by decide) (Nat.le_of_ble_eq_true rfl) (fun p e R s m args below meth c Q C hq => xr_sub [0, 1, 2, 3, 4] (lv2 := [(0, mm_r v0), (1, mm_i v1), (2, mm_i v2), (3, mm_i v3), (4, mm_i v4)]) rfl (w_X9_memory_0 C hf hq))
noncomputable def f_X9_when_34 (M : mm_M) : Option (Int32) :=
  some (-1)
set_option maxRecDepth 20000 in
theorem w_X9_when_34 {g : mm_c} (C : mm_ok g cX9_when "LessonCards" (some .int) "when" 6 6 132 0 0) {M : mm_M} {res : Int32} (hf : f_X9_when_34 M = some res) (ko : (fun z => mm_q g 0 0 (some (mm_i z)) M) res) : mm_X g 0 0 M 34 [] [] := by
  unfold f_X9_when_34 at hf
  refine xr_iconst 35 C (v := (-1)) dX9_when_34 (by decide) rfl ?_
  obtain rfl := Option.some.inj hf
  exact xr_iret C ko ⟨(Nat.le_of_ble_eq_true rfl), (Nat.le_of_ble_eq_true rfl)⟩ dX9_when_35
noncomputable def f_X9_when_36 (M : mm_M) (v0 : Option Nat) (v4 : Option Nat) (v5 : Option Nat) : Option (Int32) :=
  (mm_fI M v4 7 3).bind fun x40 =>
  (mm_fR M v0 10 0).bind fun x44 =>
  (mm_rc M v5 9).bind fun u47 =>
  (f_X8_firstDue M v5 x40 x44).bind fun x47 =>
  some x47
set_option maxRecDepth 20000 in
theorem w_X9_when_36 {g : mm_c} (C : mm_ok g cX9_when "LessonCards" (some .int) "when" 6 6 132 0 0) {M : mm_M} {v0 : Option Nat} {v4 : Option Nat} {v5 : Option Nat} {res : Int32} (hf : f_X9_when_36 M v0 v4 v5 = some res) (ko : (fun z => mm_q g 0 0 (some (mm_i z)) M) res) : mm_X g 0 0 M 36 [(0, mm_r v0), (4, mm_r v4), (5, mm_r v5)] [] := by
  unfold f_X9_when_36 at hf
  refine xr_aload 38 2 C dX9_when_36 rfl rfl ?_
  refine xr_aload 40 1 C dX9_when_38 rfl rfl ?_
  obtain ⟨x40, h40, hf⟩ := mm_bd_e hf
  refine xr_getI 43 C cf_X9_108 rfl h40 dX9_when_40 rfl ?_
  refine xr_aload_n 44 0 C dX9_when_43 rfl rfl rfl ?_
  obtain ⟨x44, h44, hf⟩ := mm_bd_e hf
  refine xr_getR 47 C cf_X9_12 rfl h44 dX9_when_44 rfl ?_
  obtain ⟨u47, g47, hf⟩ := mm_bd_e hf
  obtain ⟨x47, h47, hf⟩ := mm_bd_e hf
  refine xr_callV 50 C [mm_i x40, mm_r x44] cm_X9_208 (fun l G cy => c_X8_firstDue l G cy h47) g47 rfl rfl ⟨⟨Nat.le_of_ble_eq_true rfl, Nat.le_of_ble_eq_true rfl⟩, (Nat.le_of_ble_eq_true rfl), (Nat.le_of_ble_eq_true rfl)⟩ (Nat.le_of_ble_eq_true rfl) dX9_when_47 rfl ?_
  obtain rfl := Option.some.inj hf
  exact xr_iret C ko ⟨(Nat.le_of_ble_eq_true rfl), (Nat.le_of_ble_eq_true rfl)⟩ dX9_when_50
noncomputable def f_X9_when_26 (M : mm_M) (v0 : Option Nat) (v4 : Option Nat) (v5 : Option Nat) : Option (Int32) :=
  (mm_rc M v5 9).bind fun u28 =>
  (f_X8_isToCome M v5).bind fun x28 =>
  if x28 = 0 then f_X9_when_34 M else f_X9_when_36 M v0 v4 v5
set_option maxRecDepth 20000 in
theorem w_X9_when_26 {g : mm_c} (C : mm_ok g cX9_when "LessonCards" (some .int) "when" 6 6 132 0 0) {M : mm_M} {v0 : Option Nat} {v4 : Option Nat} {v5 : Option Nat} {res : Int32} (hf : f_X9_when_26 M v0 v4 v5 = some res) (ko : (fun z => mm_q g 0 0 (some (mm_i z)) M) res) : mm_X g 0 0 M 26 [(0, mm_r v0), (4, mm_r v4), (5, mm_r v5)] [] := by
  unfold f_X9_when_26 at hf
  refine xr_aload 28 2 C dX9_when_26 rfl rfl ?_
  obtain ⟨u28, g28, hf⟩ := mm_bd_e hf
  obtain ⟨x28, h28, hf⟩ := mm_bd_e hf
  refine xr_callV 31 C [] cm_X9_205 (fun l G cy => c_X8_isToCome l G cy h28) g28 rfl rfl ⟨⟨Nat.le_of_ble_eq_true rfl, Nat.le_of_ble_eq_true rfl⟩, (Nat.le_of_ble_eq_true rfl), (Nat.le_of_ble_eq_true rfl)⟩ (Nat.le_of_ble_eq_true rfl) dX9_when_28 rfl ?_
  refine xr_if_ne 36 34 C dX9_when_31 (by decide) rfl (fun hc => ?_) (fun hc => ?_)
  · replace hf := (if_neg hc).symm.trans hf
    exact w_X9_when_36 C hf ko
  · replace hf := (if_pos hc).symm.trans hf
    refine xr_sub [] (lv2 := []) rfl ?_
    exact w_X9_when_34 C hf ko
noncomputable def f_X9_when_21 (M : mm_M) (v0 : Option Nat) (v4 : Option Nat) (v5 : Option Nat) : Option (Int32) :=
  if v5 = none then f_X9_when_34 M else f_X9_when_26 M v0 v4 v5
set_option maxRecDepth 20000 in
theorem w_X9_when_21 {g : mm_c} (C : mm_ok g cX9_when "LessonCards" (some .int) "when" 6 6 132 0 0) {M : mm_M} {v0 : Option Nat} {v4 : Option Nat} {v5 : Option Nat} {res : Int32} (hf : f_X9_when_21 M v0 v4 v5 = some res) (ko : (fun z => mm_q g 0 0 (some (mm_i z)) M) res) : mm_X g 0 0 M 21 [(0, mm_r v0), (4, mm_r v4), (5, mm_r v5)] [] := by
  unfold f_X9_when_21 at hf
  refine xr_aload 23 2 C dX9_when_21 rfl rfl ?_
  refine xr_ifnull 34 26 C dX9_when_23 (by decide) rfl (fun hc => ?_) (fun hc => ?_)
  · replace hf := (if_pos hc).symm.trans hf
    refine xr_sub [] (lv2 := []) rfl ?_
    exact w_X9_when_34 C hf ko
  · replace hf := (if_neg hc).symm.trans hf
    exact w_X9_when_26 C hf ko
noncomputable def f_X9_when_0 (M : mm_M) (v0 : Option Nat) (v1 : Int32) (v2 : Int32) (v3 : Int32) : Option (Int32) :=
  (mm_rc M v0 10).bind fun u2 =>
  (f_X9_learnerAt M v0 v1).bind fun x2 =>
  (mm_rc M v0 10).bind fun u11 =>
  (f_X9_memoryOf M v0 v1 v2 v3).bind fun x11 =>
  if x2 = none then f_X9_when_34 M else f_X9_when_21 M v0 x2 x11
set_option maxRecDepth 20000 in
theorem w_X9_when_0 {g : mm_c} (C : mm_ok g cX9_when "LessonCards" (some .int) "when" 6 6 132 0 0) {M : mm_M} {v0 : Option Nat} {v1 : Int32} {v2 : Int32} {v3 : Int32} {res : Int32} (hf : f_X9_when_0 M v0 v1 v2 v3 = some res) (ko : (fun z => mm_q g 0 0 (some (mm_i z)) M) res) : mm_X g 0 0 M 0 [(0, mm_r v0), (1, mm_i v1), (2, mm_i v2), (3, mm_i v3)] [] := by
  unfold f_X9_when_0 at hf
  refine xr_aload_n 1 0 C dX9_when_0 rfl rfl rfl ?_
  refine xr_iload_n 2 1 C dX9_when_1 rfl rfl rfl ?_
  obtain ⟨u2, g2, hf⟩ := mm_bd_e hf
  obtain ⟨x2, h2, hf⟩ := mm_bd_e hf
  refine xr_callV 5 C [mm_i v1] cm_X9_104 (fun l G cy => c_X9_learnerAt l G cy h2) g2 rfl rfl ⟨⟨Nat.le_of_ble_eq_true rfl, Nat.le_of_ble_eq_true rfl⟩, (Nat.le_of_ble_eq_true rfl), (Nat.le_of_ble_eq_true rfl)⟩ (Nat.le_of_ble_eq_true rfl) dX9_when_2 rfl ?_
  refine xr_astore 7 C dX9_when_5 (by decide) rfl [(4, mm_r x2), (0, mm_r v0), (1, mm_i v1), (2, mm_i v2), (3, mm_i v3)] rfl ?_
  refine xr_aload_n 8 1 C dX9_when_7 rfl rfl rfl ?_
  refine xr_iload_n 9 2 C dX9_when_8 rfl rfl rfl ?_
  refine xr_iload_n 10 3 C dX9_when_9 rfl rfl rfl ?_
  refine xr_iload_n 11 4 C dX9_when_10 rfl rfl rfl ?_
  obtain ⟨u11, g11, hf⟩ := mm_bd_e hf
  obtain ⟨x11, h11, hf⟩ := mm_bd_e hf
  refine xr_callV 14 C [mm_i v1, mm_i v2, mm_i v3] cm_X9_162 (fun l G cy => c_X9_memoryOf l G cy h11) g11 rfl rfl ⟨⟨Nat.le_of_ble_eq_true rfl, Nat.le_of_ble_eq_true rfl⟩, (Nat.le_of_ble_eq_true rfl), (Nat.le_of_ble_eq_true rfl)⟩ (Nat.le_of_ble_eq_true rfl) dX9_when_11 rfl ?_
  refine xr_astore 16 C dX9_when_14 (by decide) rfl [(5, mm_r x11), (4, mm_r x2), (0, mm_r v0), (1, mm_i v1), (2, mm_i v2), (3, mm_i v3)] rfl ?_
  refine xr_aload 18 1 C dX9_when_16 rfl rfl ?_
  refine xr_ifnull 34 21 C dX9_when_18 (by decide) rfl (fun hc => ?_) (fun hc => ?_)
  · replace hf := (if_pos hc).symm.trans hf
    refine xr_sub [] (lv2 := []) rfl ?_
    exact w_X9_when_34 C hf ko
  · replace hf := (if_neg hc).symm.trans hf
    refine xr_sub [2, 1, 0] (lv2 := [(0, mm_r v0), (4, mm_r x2), (5, mm_r x11)]) rfl ?_
    exact w_X9_when_21 C hf ko
noncomputable def f_X9_when (M : mm_M) (v0 : Option Nat) (v1 : Int32) (v2 : Int32) (v3 : Int32) : Option (Int32) := f_X9_when_0 M v0 v1 v2 v3
theorem c_X9_when (l : Launch) (G : va_G) (cy : Nat → ClassId) {M : mm_M} {v0 : Option Nat} {v1 : Int32} {v2 : Int32} {v3 : Int32} {r : Int32} (hf : f_X9_when M v0 v1 v2 v3 = some r) : mm_Met l yX9_when cX9_when 6 (some .int) 6 132 0 0 G cy [mm_r v0, mm_i v1, mm_i v2, mm_i v3] M (some (mm_i r)) M :=
  mm_enter (by decide) (Nat.le_of_ble_eq_true rfl) (fun p e R s m args below meth c Q C hq => xr_sub [0, 1, 2, 3] (lv2 := [(0, mm_r v0), (1, mm_i v1), (2, mm_i v2), (3, mm_i v3)]) rfl (w_X9_when_0 C hf hq))
noncomputable def f_X9_pupil_10 (M : mm_M) : Option (Int32) :=
  some (-1)
set_option maxRecDepth 20000 in
theorem w_X9_pupil_10 {g : mm_c} (C : mm_ok g cX9_pupil "LessonCards" (some .int) "pupil" 4 6 137 0 0) {M : mm_M} {res : Int32} (hf : f_X9_pupil_10 M = some res) (ko : (fun z => mm_q g 0 0 (some (mm_i z)) M) res) : mm_X g 0 0 M 10 [] [] := by
  unfold f_X9_pupil_10 at hf
  refine xr_iconst 11 C (v := (-1)) dX9_pupil_10 (by decide) rfl ?_
  obtain rfl := Option.some.inj hf
  exact xr_iret C ko ⟨(Nat.le_of_ble_eq_true rfl), (Nat.le_of_ble_eq_true rfl)⟩ dX9_pupil_11
noncomputable def f_X9_pupil_101 (M : mm_M) : Option (Int32) :=
  some (-1)
set_option maxRecDepth 20000 in
theorem w_X9_pupil_101 {g : mm_c} (C : mm_ok g cX9_pupil "LessonCards" (some .int) "pupil" 4 6 137 0 0) {M : mm_M} {res : Int32} (hf : f_X9_pupil_101 M = some res) (ko : (fun z => mm_q g 0 0 (some (mm_i z)) M) res) : mm_X g 0 0 M 101 [] [] := by
  unfold f_X9_pupil_101 at hf
  refine xr_iconst 102 C (v := (-1)) dX9_pupil_101 (by decide) rfl ?_
  obtain rfl := Option.some.inj hf
  exact xr_iret C ko ⟨(Nat.le_of_ble_eq_true rfl), (Nat.le_of_ble_eq_true rfl)⟩ dX9_pupil_102
noncomputable def f_X9_pupil_52 (M : mm_M) (v0 : Option Nat) (v3 : Option Nat) : Option (Int32) :=
  (mm_fR M v0 10 0).bind fun x54 =>
  (mm_rc M v3 7).bind fun u57 =>
  (f_X6_countKnown M v3 x54).bind fun x57 =>
  some x57
set_option maxRecDepth 20000 in
theorem w_X9_pupil_52 {g : mm_c} (C : mm_ok g cX9_pupil "LessonCards" (some .int) "pupil" 4 6 137 0 0) {M : mm_M} {v0 : Option Nat} {v3 : Option Nat} {res : Int32} (hf : f_X9_pupil_52 M v0 v3 = some res) (ko : (fun z => mm_q g 0 0 (some (mm_i z)) M) res) : mm_X g 0 0 M 52 [(0, mm_r v0), (3, mm_r v3)] [] := by
  unfold f_X9_pupil_52 at hf
  refine xr_aload_n 53 1 C dX9_pupil_52 rfl rfl rfl ?_
  refine xr_aload_n 54 0 C dX9_pupil_53 rfl rfl rfl ?_
  obtain ⟨x54, h54, hf⟩ := mm_bd_e hf
  refine xr_getR 57 C cf_X9_12 rfl h54 dX9_pupil_54 rfl ?_
  obtain ⟨u57, g57, hf⟩ := mm_bd_e hf
  obtain ⟨x57, h57, hf⟩ := mm_bd_e hf
  refine xr_callV 60 C [mm_r x54] cm_X9_212 (fun l G cy => c_X6_countKnown l G cy h57) g57 rfl rfl ⟨⟨Nat.le_of_ble_eq_true rfl, Nat.le_of_ble_eq_true rfl⟩, (Nat.le_of_ble_eq_true rfl), (Nat.le_of_ble_eq_true rfl)⟩ (Nat.le_of_ble_eq_true rfl) dX9_pupil_57 rfl ?_
  obtain rfl := Option.some.inj hf
  exact xr_iret C ko ⟨(Nat.le_of_ble_eq_true rfl), (Nat.le_of_ble_eq_true rfl)⟩ dX9_pupil_60
noncomputable def f_X9_pupil_61 (M : mm_M) (v0 : Option Nat) (v3 : Option Nat) : Option (Int32) :=
  (mm_fR M v0 10 0).bind fun x64 =>
  (mm_rc M v3 7).bind fun u67 =>
  (f_X6_countSides M v3 1 x64).bind fun x67 =>
  some x67
set_option maxRecDepth 20000 in
theorem w_X9_pupil_61 {g : mm_c} (C : mm_ok g cX9_pupil "LessonCards" (some .int) "pupil" 4 6 137 0 0) {M : mm_M} {v0 : Option Nat} {v3 : Option Nat} {res : Int32} (hf : f_X9_pupil_61 M v0 v3 = some res) (ko : (fun z => mm_q g 0 0 (some (mm_i z)) M) res) : mm_X g 0 0 M 61 [(0, mm_r v0), (3, mm_r v3)] [] := by
  unfold f_X9_pupil_61 at hf
  refine xr_aload_n 62 1 C dX9_pupil_61 rfl rfl rfl ?_
  refine xr_iconst 63 C (v := 1) dX9_pupil_62 (by decide) rfl ?_
  refine xr_aload_n 64 0 C dX9_pupil_63 rfl rfl rfl ?_
  obtain ⟨x64, h64, hf⟩ := mm_bd_e hf
  refine xr_getR 67 C cf_X9_12 rfl h64 dX9_pupil_64 rfl ?_
  obtain ⟨u67, g67, hf⟩ := mm_bd_e hf
  obtain ⟨x67, h67, hf⟩ := mm_bd_e hf
  refine xr_callV 70 C [mm_i 1, mm_r x64] cm_X9_216 (fun l G cy => c_X6_countSides l G cy h67) g67 rfl rfl ⟨⟨Nat.le_of_ble_eq_true rfl, Nat.le_of_ble_eq_true rfl⟩, (Nat.le_of_ble_eq_true rfl), (Nat.le_of_ble_eq_true rfl)⟩ (Nat.le_of_ble_eq_true rfl) dX9_pupil_67 rfl ?_
  obtain rfl := Option.some.inj hf
  exact xr_iret C ko ⟨(Nat.le_of_ble_eq_true rfl), (Nat.le_of_ble_eq_true rfl)⟩ dX9_pupil_70
noncomputable def f_X9_pupil_71 (M : mm_M) (v0 : Option Nat) (v3 : Option Nat) : Option (Int32) :=
  (mm_fR M v0 10 0).bind fun x74 =>
  (mm_rc M v3 7).bind fun u77 =>
  (f_X6_countSides M v3 2 x74).bind fun x77 =>
  some x77
set_option maxRecDepth 20000 in
theorem w_X9_pupil_71 {g : mm_c} (C : mm_ok g cX9_pupil "LessonCards" (some .int) "pupil" 4 6 137 0 0) {M : mm_M} {v0 : Option Nat} {v3 : Option Nat} {res : Int32} (hf : f_X9_pupil_71 M v0 v3 = some res) (ko : (fun z => mm_q g 0 0 (some (mm_i z)) M) res) : mm_X g 0 0 M 71 [(0, mm_r v0), (3, mm_r v3)] [] := by
  unfold f_X9_pupil_71 at hf
  refine xr_aload_n 72 1 C dX9_pupil_71 rfl rfl rfl ?_
  refine xr_iconst 73 C (v := 2) dX9_pupil_72 (by decide) rfl ?_
  refine xr_aload_n 74 0 C dX9_pupil_73 rfl rfl rfl ?_
  obtain ⟨x74, h74, hf⟩ := mm_bd_e hf
  refine xr_getR 77 C cf_X9_12 rfl h74 dX9_pupil_74 rfl ?_
  obtain ⟨u77, g77, hf⟩ := mm_bd_e hf
  obtain ⟨x77, h77, hf⟩ := mm_bd_e hf
  refine xr_callV 80 C [mm_i 2, mm_r x74] cm_X9_216 (fun l G cy => c_X6_countSides l G cy h77) g77 rfl rfl ⟨⟨Nat.le_of_ble_eq_true rfl, Nat.le_of_ble_eq_true rfl⟩, (Nat.le_of_ble_eq_true rfl), (Nat.le_of_ble_eq_true rfl)⟩ (Nat.le_of_ble_eq_true rfl) dX9_pupil_77 rfl ?_
  obtain rfl := Option.some.inj hf
  exact xr_iret C ko ⟨(Nat.le_of_ble_eq_true rfl), (Nat.le_of_ble_eq_true rfl)⟩ dX9_pupil_80
noncomputable def f_X9_pupil_81 (M : mm_M) (v0 : Option Nat) (v3 : Option Nat) : Option (Int32) :=
  (mm_fR M v0 10 0).bind fun x84 =>
  (mm_rc M v3 7).bind fun u87 =>
  (f_X6_countSides M v3 3 x84).bind fun x87 =>
  some x87
set_option maxRecDepth 20000 in
theorem w_X9_pupil_81 {g : mm_c} (C : mm_ok g cX9_pupil "LessonCards" (some .int) "pupil" 4 6 137 0 0) {M : mm_M} {v0 : Option Nat} {v3 : Option Nat} {res : Int32} (hf : f_X9_pupil_81 M v0 v3 = some res) (ko : (fun z => mm_q g 0 0 (some (mm_i z)) M) res) : mm_X g 0 0 M 81 [(0, mm_r v0), (3, mm_r v3)] [] := by
  unfold f_X9_pupil_81 at hf
  refine xr_aload_n 82 1 C dX9_pupil_81 rfl rfl rfl ?_
  refine xr_iconst 83 C (v := 3) dX9_pupil_82 (by decide) rfl ?_
  refine xr_aload_n 84 0 C dX9_pupil_83 rfl rfl rfl ?_
  obtain ⟨x84, h84, hf⟩ := mm_bd_e hf
  refine xr_getR 87 C cf_X9_12 rfl h84 dX9_pupil_84 rfl ?_
  obtain ⟨u87, g87, hf⟩ := mm_bd_e hf
  obtain ⟨x87, h87, hf⟩ := mm_bd_e hf
  refine xr_callV 90 C [mm_i 3, mm_r x84] cm_X9_216 (fun l G cy => c_X6_countSides l G cy h87) g87 rfl rfl ⟨⟨Nat.le_of_ble_eq_true rfl, Nat.le_of_ble_eq_true rfl⟩, (Nat.le_of_ble_eq_true rfl), (Nat.le_of_ble_eq_true rfl)⟩ (Nat.le_of_ble_eq_true rfl) dX9_pupil_87 rfl ?_
  obtain rfl := Option.some.inj hf
  exact xr_iret C ko ⟨(Nat.le_of_ble_eq_true rfl), (Nat.le_of_ble_eq_true rfl)⟩ dX9_pupil_90
noncomputable def f_X9_pupil_91 (M : mm_M) (v3 : Option Nat) : Option (Int32) :=
  (mm_fI M v3 7 2).bind fun x92 =>
  some x92
set_option maxRecDepth 20000 in
theorem w_X9_pupil_91 {g : mm_c} (C : mm_ok g cX9_pupil "LessonCards" (some .int) "pupil" 4 6 137 0 0) {M : mm_M} {v3 : Option Nat} {res : Int32} (hf : f_X9_pupil_91 M v3 = some res) (ko : (fun z => mm_q g 0 0 (some (mm_i z)) M) res) : mm_X g 0 0 M 91 [(3, mm_r v3)] [] := by
  unfold f_X9_pupil_91 at hf
  refine xr_aload_n 92 0 C dX9_pupil_91 rfl rfl rfl ?_
  obtain ⟨x92, h92, hf⟩ := mm_bd_e hf
  refine xr_getI 95 C cf_X9_114 rfl h92 dX9_pupil_92 rfl ?_
  obtain rfl := Option.some.inj hf
  exact xr_iret C ko ⟨(Nat.le_of_ble_eq_true rfl), (Nat.le_of_ble_eq_true rfl)⟩ dX9_pupil_95
noncomputable def f_X9_pupil_96 (M : mm_M) (v3 : Option Nat) : Option (Int32) :=
  (mm_fI M v3 7 3).bind fun x97 =>
  some x97
set_option maxRecDepth 20000 in
theorem w_X9_pupil_96 {g : mm_c} (C : mm_ok g cX9_pupil "LessonCards" (some .int) "pupil" 4 6 137 0 0) {M : mm_M} {v3 : Option Nat} {res : Int32} (hf : f_X9_pupil_96 M v3 = some res) (ko : (fun z => mm_q g 0 0 (some (mm_i z)) M) res) : mm_X g 0 0 M 96 [(3, mm_r v3)] [] := by
  unfold f_X9_pupil_96 at hf
  refine xr_aload_n 97 0 C dX9_pupil_96 rfl rfl rfl ?_
  obtain ⟨x97, h97, hf⟩ := mm_bd_e hf
  refine xr_getI 100 C cf_X9_108 rfl h97 dX9_pupil_97 rfl ?_
  obtain rfl := Option.some.inj hf
  exact xr_iret C ko ⟨(Nat.le_of_ble_eq_true rfl), (Nat.le_of_ble_eq_true rfl)⟩ dX9_pupil_100
noncomputable def f_X9_pupil_12 (M : mm_M) (v0 : Option Nat) (v2 : Int32) (v3 : Option Nat) : Option (Int32) :=
  if v2 = 0 then f_X9_pupil_52 M v0 v3 else if v2 = 1 then f_X9_pupil_61 M v0 v3 else if v2 = 2 then f_X9_pupil_71 M v0 v3 else if v2 = 3 then f_X9_pupil_81 M v0 v3 else if v2 = 4 then f_X9_pupil_91 M v3 else if v2 = 5 then f_X9_pupil_96 M v3 else f_X9_pupil_101 M
set_option maxRecDepth 20000 in
theorem w_X9_pupil_12 {g : mm_c} (C : mm_ok g cX9_pupil "LessonCards" (some .int) "pupil" 4 6 137 0 0) {M : mm_M} {v0 : Option Nat} {v2 : Int32} {v3 : Option Nat} {res : Int32} (hf : f_X9_pupil_12 M v0 v2 v3 = some res) (ko : (fun z => mm_q g 0 0 (some (mm_i z)) M) res) : mm_X g 0 0 M 12 [(0, mm_r v0), (2, mm_i v2), (3, mm_r v3)] [] := by
  unfold f_X9_pupil_12 at hf
  refine xr_iload_n 13 1 C dX9_pupil_12 rfl rfl rfl ?_
  rcases mm_if_e hf with ⟨hc0, hf⟩ | ⟨hc0, hf⟩
  · refine xr_tin 52 C dX9_pupil_13 (off := 39) hc0 (by decide) (by decide) (by decide) (by decide) ?_
    refine xr_sub [0, 2] (lv2 := [(0, mm_r v0), (3, mm_r v3)]) rfl ?_
    exact w_X9_pupil_52 C hf ko
  ·
    rcases mm_if_e hf with ⟨hc1, hf⟩ | ⟨hc1, hf⟩
    · refine xr_tin 61 C dX9_pupil_13 (off := 48) hc1 (by decide) (by decide) (by decide) (by decide) ?_
      refine xr_sub [0, 2] (lv2 := [(0, mm_r v0), (3, mm_r v3)]) rfl ?_
      exact w_X9_pupil_61 C hf ko
    ·
      rcases mm_if_e hf with ⟨hc2, hf⟩ | ⟨hc2, hf⟩
      · refine xr_tin 71 C dX9_pupil_13 (off := 58) hc2 (by decide) (by decide) (by decide) (by decide) ?_
        refine xr_sub [0, 2] (lv2 := [(0, mm_r v0), (3, mm_r v3)]) rfl ?_
        exact w_X9_pupil_71 C hf ko
      ·
        rcases mm_if_e hf with ⟨hc3, hf⟩ | ⟨hc3, hf⟩
        · refine xr_tin 81 C dX9_pupil_13 (off := 68) hc3 (by decide) (by decide) (by decide) (by decide) ?_
          refine xr_sub [0, 2] (lv2 := [(0, mm_r v0), (3, mm_r v3)]) rfl ?_
          exact w_X9_pupil_81 C hf ko
        ·
          rcases mm_if_e hf with ⟨hc4, hf⟩ | ⟨hc4, hf⟩
          · refine xr_tin 91 C dX9_pupil_13 (off := 78) hc4 (by decide) (by decide) (by decide) (by decide) ?_
            refine xr_sub [2] (lv2 := [(3, mm_r v3)]) rfl ?_
            exact w_X9_pupil_91 C hf ko
          ·
            rcases mm_if_e hf with ⟨hc5, hf⟩ | ⟨hc5, hf⟩
            · refine xr_tin 96 C dX9_pupil_13 (off := 83) hc5 (by decide) (by decide) (by decide) (by decide) ?_
              refine xr_sub [2] (lv2 := [(3, mm_r v3)]) rfl ?_
              exact w_X9_pupil_96 C hf ko
            ·
              refine xr_tout 101 C dX9_pupil_13 (mm_swd _ 5 (by decide) (fun k hk => by rcases (show k = 0 ∨ k = 1 ∨ k = 2 ∨ k = 3 ∨ k = 4 ∨ k = 5 by omega) with rfl | rfl | rfl | rfl | rfl | rfl <;> assumption)) (by decide) ?_
              refine xr_sub [] (lv2 := []) rfl ?_
              exact w_X9_pupil_101 C hf ko
noncomputable def f_X9_pupil_0 (M : mm_M) (v0 : Option Nat) (v1 : Int32) (v2 : Int32) : Option (Int32) :=
  (mm_rc M v0 10).bind fun u2 =>
  (f_X9_learnerAt M v0 v1).bind fun x2 =>
  if x2 = none then f_X9_pupil_10 M else f_X9_pupil_12 M v0 v2 x2
set_option maxRecDepth 20000 in
theorem w_X9_pupil_0 {g : mm_c} (C : mm_ok g cX9_pupil "LessonCards" (some .int) "pupil" 4 6 137 0 0) {M : mm_M} {v0 : Option Nat} {v1 : Int32} {v2 : Int32} {res : Int32} (hf : f_X9_pupil_0 M v0 v1 v2 = some res) (ko : (fun z => mm_q g 0 0 (some (mm_i z)) M) res) : mm_X g 0 0 M 0 [(0, mm_r v0), (1, mm_i v1), (2, mm_i v2)] [] := by
  unfold f_X9_pupil_0 at hf
  refine xr_aload_n 1 0 C dX9_pupil_0 rfl rfl rfl ?_
  refine xr_iload_n 2 1 C dX9_pupil_1 rfl rfl rfl ?_
  obtain ⟨u2, g2, hf⟩ := mm_bd_e hf
  obtain ⟨x2, h2, hf⟩ := mm_bd_e hf
  refine xr_callV 5 C [mm_i v1] cm_X9_104 (fun l G cy => c_X9_learnerAt l G cy h2) g2 rfl rfl ⟨⟨Nat.le_of_ble_eq_true rfl, Nat.le_of_ble_eq_true rfl⟩, (Nat.le_of_ble_eq_true rfl), (Nat.le_of_ble_eq_true rfl)⟩ (Nat.le_of_ble_eq_true rfl) dX9_pupil_2 rfl ?_
  refine xr_astore_n 6 C dX9_pupil_5 rfl (by decide) rfl [(3, mm_r x2), (0, mm_r v0), (1, mm_i v1), (2, mm_i v2)] rfl ?_
  refine xr_aload_n 7 0 C dX9_pupil_6 rfl rfl rfl ?_
  refine xr_ifnonnull 12 10 C dX9_pupil_7 (by decide) rfl (fun hc => ?_) (fun hc => ?_)
  · replace hf := (if_neg hc).symm.trans hf
    refine xr_sub [1, 3, 0] (lv2 := [(0, mm_r v0), (2, mm_i v2), (3, mm_r x2)]) rfl ?_
    exact w_X9_pupil_12 C hf ko
  · replace hf := (if_pos hc).symm.trans hf
    refine xr_sub [] (lv2 := []) rfl ?_
    exact w_X9_pupil_10 C hf ko
noncomputable def f_X9_pupil (M : mm_M) (v0 : Option Nat) (v1 : Int32) (v2 : Int32) : Option (Int32) := f_X9_pupil_0 M v0 v1 v2
theorem c_X9_pupil (l : Launch) (G : va_G) (cy : Nat → ClassId) {M : mm_M} {v0 : Option Nat} {v1 : Int32} {v2 : Int32} {r : Int32} (hf : f_X9_pupil M v0 v1 v2 = some r) : mm_Met l yX9_pupil cX9_pupil 4 (some .int) 6 137 0 0 G cy [mm_r v0, mm_i v1, mm_i v2] M (some (mm_i r)) M :=
  mm_enter (by decide) (Nat.le_of_ble_eq_true rfl) (fun p e R s m args below meth c Q C hq => xr_sub [0, 1, 2] (lv2 := [(0, mm_r v0), (1, mm_i v1), (2, mm_i v2)]) rfl (w_X9_pupil_0 C hf hq))
noncomputable def f_X9_known_30 (M : mm_M) : Option (Int32) :=
  some (-1)
set_option maxRecDepth 20000 in
theorem w_X9_known_30 {g : mm_c} (C : mm_ok g cX9_known "LessonCards" (some .int) "known" 5 4 88 0 0) {M : mm_M} {res : Int32} (hf : f_X9_known_30 M = some res) (ko : (fun z => mm_q g 0 0 (some (mm_i z)) M) res) : mm_X g 0 0 M 30 [] [] := by
  unfold f_X9_known_30 at hf
  refine xr_iconst 31 C (v := (-1)) dX9_known_30 (by decide) rfl ?_
  obtain rfl := Option.some.inj hf
  exact xr_iret C ko ⟨(Nat.le_of_ble_eq_true rfl), (Nat.le_of_ble_eq_true rfl)⟩ dX9_known_31
noncomputable def f_X9_known_53 (M : mm_M) (s0 : Int32) : Option (Int32) :=
  some s0
set_option maxRecDepth 20000 in
theorem w_X9_known_53 {g : mm_c} (C : mm_ok g cX9_known "LessonCards" (some .int) "known" 5 4 88 0 0) {M : mm_M} {s0 : Int32} {res : Int32} (hf : f_X9_known_53 M s0 = some res) (ko : (fun z => mm_q g 0 0 (some (mm_i z)) M) res) : mm_X g 0 0 M 53 [] [mm_i s0] := by
  unfold f_X9_known_53 at hf
  obtain rfl := Option.some.inj hf
  exact xr_iret C ko ⟨(Nat.le_of_ble_eq_true rfl), (Nat.le_of_ble_eq_true rfl)⟩ dX9_known_53
noncomputable def f_X9_known_48 (M : mm_M) : Option (Int32) :=
  f_X9_known_53 M 1
set_option maxRecDepth 20000 in
theorem w_X9_known_48 {g : mm_c} (C : mm_ok g cX9_known "LessonCards" (some .int) "known" 5 4 88 0 0) {M : mm_M} {res : Int32} (hf : f_X9_known_48 M = some res) (ko : (fun z => mm_q g 0 0 (some (mm_i z)) M) res) : mm_X g 0 0 M 48 [] [] := by
  unfold f_X9_known_48 at hf
  refine xr_iconst 49 C (v := 1) dX9_known_48 (by decide) rfl ?_
  refine xr_goto 53 C dX9_known_49 (by decide) ?_
  exact w_X9_known_53 C hf ko
noncomputable def f_X9_known_52 (M : mm_M) : Option (Int32) :=
  f_X9_known_53 M 0
set_option maxRecDepth 20000 in
theorem w_X9_known_52 {g : mm_c} (C : mm_ok g cX9_known "LessonCards" (some .int) "known" 5 4 88 0 0) {M : mm_M} {res : Int32} (hf : f_X9_known_52 M = some res) (ko : (fun z => mm_q g 0 0 (some (mm_i z)) M) res) : mm_X g 0 0 M 52 [] [] := by
  unfold f_X9_known_52 at hf
  refine xr_iconst 53 C (v := 0) dX9_known_52 (by decide) rfl ?_
  exact w_X9_known_53 C hf ko
noncomputable def f_X9_known_32 (M : mm_M) (v0 : Option Nat) (v3 : Option Nat) (v4 : Option Nat) : Option (Int32) :=
  (mm_fI M v3 7 3).bind fun x35 =>
  (mm_fR M v0 10 0).bind fun x39 =>
  (mm_rc M v4 6).bind fun u42 =>
  (f_X5_isKnown M v4 x35 x39).bind fun x42 =>
  if x42 = 0 then f_X9_known_52 M else f_X9_known_48 M
set_option maxRecDepth 20000 in
theorem w_X9_known_32 {g : mm_c} (C : mm_ok g cX9_known "LessonCards" (some .int) "known" 5 4 88 0 0) {M : mm_M} {v0 : Option Nat} {v3 : Option Nat} {v4 : Option Nat} {res : Int32} (hf : f_X9_known_32 M v0 v3 v4 = some res) (ko : (fun z => mm_q g 0 0 (some (mm_i z)) M) res) : mm_X g 0 0 M 32 [(0, mm_r v0), (3, mm_r v3), (4, mm_r v4)] [] := by
  unfold f_X9_known_32 at hf
  refine xr_aload 34 2 C dX9_known_32 rfl rfl ?_
  refine xr_aload_n 35 1 C dX9_known_34 rfl rfl rfl ?_
  obtain ⟨x35, h35, hf⟩ := mm_bd_e hf
  refine xr_getI 38 C cf_X9_108 rfl h35 dX9_known_35 rfl ?_
  refine xr_aload_n 39 0 C dX9_known_38 rfl rfl rfl ?_
  obtain ⟨x39, h39, hf⟩ := mm_bd_e hf
  refine xr_getR 42 C cf_X9_12 rfl h39 dX9_known_39 rfl ?_
  obtain ⟨u42, g42, hf⟩ := mm_bd_e hf
  obtain ⟨x42, h42, hf⟩ := mm_bd_e hf
  refine xr_callV 45 C [mm_i x35, mm_r x39] cm_X9_223 (fun l G cy => c_X5_isKnown l G cy h42) g42 rfl rfl ⟨⟨Nat.le_of_ble_eq_true rfl, Nat.le_of_ble_eq_true rfl⟩, (Nat.le_of_ble_eq_true rfl), (Nat.le_of_ble_eq_true rfl)⟩ (Nat.le_of_ble_eq_true rfl) dX9_known_42 rfl ?_
  refine xr_if_eq 52 48 C dX9_known_45 (by decide) rfl (fun hc => ?_) (fun hc => ?_)
  · replace hf := (if_pos hc).symm.trans hf
    refine xr_sub [] (lv2 := []) rfl ?_
    exact w_X9_known_52 C hf ko
  · replace hf := (if_neg hc).symm.trans hf
    refine xr_sub [] (lv2 := []) rfl ?_
    exact w_X9_known_48 C hf ko
noncomputable def f_X9_known_25 (M : mm_M) (v0 : Option Nat) (v3 : Option Nat) (v4 : Option Nat) : Option (Int32) :=
  if v4 = none then f_X9_known_30 M else f_X9_known_32 M v0 v3 v4
set_option maxRecDepth 20000 in
theorem w_X9_known_25 {g : mm_c} (C : mm_ok g cX9_known "LessonCards" (some .int) "known" 5 4 88 0 0) {M : mm_M} {v0 : Option Nat} {v3 : Option Nat} {v4 : Option Nat} {res : Int32} (hf : f_X9_known_25 M v0 v3 v4 = some res) (ko : (fun z => mm_q g 0 0 (some (mm_i z)) M) res) : mm_X g 0 0 M 25 [(0, mm_r v0), (3, mm_r v3), (4, mm_r v4)] [] := by
  unfold f_X9_known_25 at hf
  refine xr_aload 27 2 C dX9_known_25 rfl rfl ?_
  refine xr_ifnonnull 32 30 C dX9_known_27 (by decide) rfl (fun hc => ?_) (fun hc => ?_)
  · replace hf := (if_neg hc).symm.trans hf
    exact w_X9_known_32 C hf ko
  · replace hf := (if_pos hc).symm.trans hf
    refine xr_sub [] (lv2 := []) rfl ?_
    exact w_X9_known_30 C hf ko
noncomputable def f_X9_known_19 (M : mm_M) (v0 : Option Nat) (v3 : Option Nat) (s0 : Option Nat) : Option (Int32) :=
  if v3 = none then f_X9_known_30 M else f_X9_known_25 M v0 v3 s0
set_option maxRecDepth 20000 in
theorem w_X9_known_19 {g : mm_c} (C : mm_ok g cX9_known "LessonCards" (some .int) "known" 5 4 88 0 0) {M : mm_M} {v0 : Option Nat} {v3 : Option Nat} {s0 : Option Nat} {res : Int32} (hf : f_X9_known_19 M v0 v3 s0 = some res) (ko : (fun z => mm_q g 0 0 (some (mm_i z)) M) res) : mm_X g 0 0 M 19 [(0, mm_r v0), (3, mm_r v3)] [mm_r s0] := by
  unfold f_X9_known_19 at hf
  refine xr_astore 21 C dX9_known_19 (by decide) rfl [(4, mm_r s0), (0, mm_r v0), (3, mm_r v3)] rfl ?_
  refine xr_aload_n 22 2 C dX9_known_21 rfl rfl rfl ?_
  refine xr_ifnull 30 25 C dX9_known_22 (by decide) rfl (fun hc => ?_) (fun hc => ?_)
  · replace hf := (if_pos hc).symm.trans hf
    refine xr_sub [] (lv2 := []) rfl ?_
    exact w_X9_known_30 C hf ko
  · replace hf := (if_neg hc).symm.trans hf
    refine xr_sub [1, 2, 0] (lv2 := [(0, mm_r v0), (3, mm_r v3), (4, mm_r s0)]) rfl ?_
    exact w_X9_known_25 C hf ko
noncomputable def f_X9_known_10 (M : mm_M) (v0 : Option Nat) (v3 : Option Nat) : Option (Int32) :=
  f_X9_known_19 M v0 v3 none
set_option maxRecDepth 20000 in
theorem w_X9_known_10 {g : mm_c} (C : mm_ok g cX9_known "LessonCards" (some .int) "known" 5 4 88 0 0) {M : mm_M} {v0 : Option Nat} {v3 : Option Nat} {res : Int32} (hf : f_X9_known_10 M v0 v3 = some res) (ko : (fun z => mm_q g 0 0 (some (mm_i z)) M) res) : mm_X g 0 0 M 10 [(0, mm_r v0), (3, mm_r v3)] [] := by
  unfold f_X9_known_10 at hf
  refine xr_null 11 C dX9_known_10 rfl ?_
  refine xr_goto 19 C dX9_known_11 (by decide) ?_
  exact w_X9_known_19 C hf ko
noncomputable def f_X9_known_14 (M : mm_M) (v0 : Option Nat) (v2 : Int32) (v3 : Option Nat) : Option (Int32) :=
  (mm_rc M v3 7).bind fun u16 =>
  (f_X6_handAt M v3 v2).bind fun x16 =>
  f_X9_known_19 M v0 v3 x16
set_option maxRecDepth 20000 in
theorem w_X9_known_14 {g : mm_c} (C : mm_ok g cX9_known "LessonCards" (some .int) "known" 5 4 88 0 0) {M : mm_M} {v0 : Option Nat} {v2 : Int32} {v3 : Option Nat} {res : Int32} (hf : f_X9_known_14 M v0 v2 v3 = some res) (ko : (fun z => mm_q g 0 0 (some (mm_i z)) M) res) : mm_X g 0 0 M 14 [(0, mm_r v0), (2, mm_i v2), (3, mm_r v3)] [] := by
  unfold f_X9_known_14 at hf
  refine xr_aload_n 15 2 C dX9_known_14 rfl rfl rfl ?_
  refine xr_iload_n 16 1 C dX9_known_15 rfl rfl rfl ?_
  obtain ⟨u16, g16, hf⟩ := mm_bd_e hf
  obtain ⟨x16, h16, hf⟩ := mm_bd_e hf
  refine xr_callV 19 C [mm_i v2] cm_X9_219 (fun l G cy => c_X6_handAt l G cy h16) g16 rfl rfl ⟨⟨Nat.le_of_ble_eq_true rfl, Nat.le_of_ble_eq_true rfl⟩, (Nat.le_of_ble_eq_true rfl), (Nat.le_of_ble_eq_true rfl)⟩ (Nat.le_of_ble_eq_true rfl) dX9_known_16 rfl ?_
  refine xr_sub [0, 2] (lv2 := [(0, mm_r v0), (3, mm_r v3)]) rfl ?_
  exact w_X9_known_19 C hf ko
noncomputable def f_X9_known_0 (M : mm_M) (v0 : Option Nat) (v1 : Int32) (v2 : Int32) : Option (Int32) :=
  (mm_rc M v0 10).bind fun u2 =>
  (f_X9_learnerAt M v0 v1).bind fun x2 =>
  if x2 = none then f_X9_known_10 M v0 x2 else f_X9_known_14 M v0 v2 x2
set_option maxRecDepth 20000 in
theorem w_X9_known_0 {g : mm_c} (C : mm_ok g cX9_known "LessonCards" (some .int) "known" 5 4 88 0 0) {M : mm_M} {v0 : Option Nat} {v1 : Int32} {v2 : Int32} {res : Int32} (hf : f_X9_known_0 M v0 v1 v2 = some res) (ko : (fun z => mm_q g 0 0 (some (mm_i z)) M) res) : mm_X g 0 0 M 0 [(0, mm_r v0), (1, mm_i v1), (2, mm_i v2)] [] := by
  unfold f_X9_known_0 at hf
  refine xr_aload_n 1 0 C dX9_known_0 rfl rfl rfl ?_
  refine xr_iload_n 2 1 C dX9_known_1 rfl rfl rfl ?_
  obtain ⟨u2, g2, hf⟩ := mm_bd_e hf
  obtain ⟨x2, h2, hf⟩ := mm_bd_e hf
  refine xr_callV 5 C [mm_i v1] cm_X9_104 (fun l G cy => c_X9_learnerAt l G cy h2) g2 rfl rfl ⟨⟨Nat.le_of_ble_eq_true rfl, Nat.le_of_ble_eq_true rfl⟩, (Nat.le_of_ble_eq_true rfl), (Nat.le_of_ble_eq_true rfl)⟩ (Nat.le_of_ble_eq_true rfl) dX9_known_2 rfl ?_
  refine xr_astore_n 6 C dX9_known_5 rfl (by decide) rfl [(3, mm_r x2), (0, mm_r v0), (1, mm_i v1), (2, mm_i v2)] rfl ?_
  refine xr_aload_n 7 0 C dX9_known_6 rfl rfl rfl ?_
  refine xr_ifnonnull 14 10 C dX9_known_7 (by decide) rfl (fun hc => ?_) (fun hc => ?_)
  · replace hf := (if_neg hc).symm.trans hf
    refine xr_sub [1, 3, 0] (lv2 := [(0, mm_r v0), (2, mm_i v2), (3, mm_r x2)]) rfl ?_
    exact w_X9_known_14 C hf ko
  · replace hf := (if_pos hc).symm.trans hf
    refine xr_sub [1, 0] (lv2 := [(0, mm_r v0), (3, mm_r x2)]) rfl ?_
    exact w_X9_known_10 C hf ko
noncomputable def f_X9_known (M : mm_M) (v0 : Option Nat) (v1 : Int32) (v2 : Int32) : Option (Int32) := f_X9_known_0 M v0 v1 v2
theorem c_X9_known (l : Launch) (G : va_G) (cy : Nat → ClassId) {M : mm_M} {v0 : Option Nat} {v1 : Int32} {v2 : Int32} {r : Int32} (hf : f_X9_known M v0 v1 v2 = some r) : mm_Met l yX9_known cX9_known 5 (some .int) 4 88 0 0 G cy [mm_r v0, mm_i v1, mm_i v2] M (some (mm_i r)) M :=
  mm_enter (by decide) (Nat.le_of_ble_eq_true rfl) (fun p e R s m args below meth c Q C hq => xr_sub [0, 1, 2] (lv2 := [(0, mm_r v0), (1, mm_i v1), (2, mm_i v2)]) rfl (w_X9_known_0 C hf hq))
def h_X9_mean_19 (g : mm_c) (M : mm_M) (v0 : Option Nat) (v1 : Int32) (v2 : Int32) : (Int32 × Int32) → Prop := fun x => mm_X g 0 0 M 19 [(0, mm_r v0), (1, mm_i v1), (2, mm_i v2), (3, mm_i x.1), (4, mm_i x.2)] []
noncomputable def f_X9_mean_12 (M : mm_M) : Option (Int32) :=
  some (-1)
set_option maxRecDepth 20000 in
theorem w_X9_mean_12 {g : mm_c} (C : mm_ok g cX9_mean "LessonCards" (some .int) "mean" 6 5 108 0 0) {M : mm_M} {res : Int32} (hf : f_X9_mean_12 M = some res) (ko : (fun z => mm_q g 0 0 (some (mm_i z)) M) res) : mm_X g 0 0 M 12 [] [] := by
  unfold f_X9_mean_12 at hf
  refine xr_iconst 13 C (v := (-1)) dX9_mean_12 (by decide) rfl ?_
  obtain rfl := Option.some.inj hf
  exact xr_iret C ko ⟨(Nat.le_of_ble_eq_true rfl), (Nat.le_of_ble_eq_true rfl)⟩ dX9_mean_13
noncomputable def f_X9_mean_70 (M : mm_M) (v0 : Option Nat) (v1 : Int32) (v2 : Int32) (v3 : Int32) (v4 : Int32) : Option ((Int32 × Int32) ⊕ (Int32)) :=
  some (.inl (v3, (v4 + 1)))
set_option maxRecDepth 20000 in
theorem w_X9_mean_70 {g : mm_c} (C : mm_ok g cX9_mean "LessonCards" (some .int) "mean" 6 5 108 0 0) {M : mm_M} {v0 : Option Nat} {v1 : Int32} {v2 : Int32} {v3 : Int32} {v4 : Int32} {res : (Int32 × Int32) ⊕ (Int32)} (hf : f_X9_mean_70 M v0 v1 v2 v3 v4 = some res) (ko : (mm_o (h_X9_mean_19 g M v0 v1 v2) (fun z => mm_q g 0 0 (some (mm_i z)) M)) res) : mm_X g 0 0 M 70 [(0, mm_r v0), (1, mm_i v1), (2, mm_i v2), (3, mm_i v3), (4, mm_i v4)] [] := by
  unfold f_X9_mean_70 at hf
  refine xr_iinc 73 4 C dX9_mean_70 rfl (by decide) (v := 1) (by decide) rfl [(4, mm_i (v4 + 1)), (0, mm_r v0), (1, mm_i v1), (2, mm_i v2), (3, mm_i v3)] rfl ?_
  refine xr_goto 19 C dX9_mean_73 (by decide) ?_
  refine xr_sub [1, 2, 3, 4, 0] (lv2 := [(0, mm_r v0), (1, mm_i v1), (2, mm_i v2), (3, mm_i v3), (4, mm_i (v4 + 1))]) rfl ?_
  obtain rfl := Option.some.inj hf
  exact ko
noncomputable def f_X9_mean_48 (M : mm_M) (v0 : Option Nat) (v1 : Int32) (v2 : Int32) (v3 : Int32) (v4 : Int32) (v5 : Option Nat) : Option ((Int32 × Int32) ⊕ (Int32)) :=
  (mm_fR M v0 10 2).bind fun x52 =>
  (mm_aR M x52 15 v4).bind fun x57 =>
  (mm_fI M x57 7 3).bind fun x58 =>
  (mm_fR M v0 10 0).bind fun x62 =>
  (mm_rc M v5 9).bind fun u65 =>
  (f_X8_chanceOn M v5 x58 x62).bind fun x65 =>
  f_X9_mean_70 M v0 v1 v2 (v3 + x65) v4
set_option maxRecDepth 20000 in
theorem w_X9_mean_48 {g : mm_c} (C : mm_ok g cX9_mean "LessonCards" (some .int) "mean" 6 5 108 0 0) {M : mm_M} {v0 : Option Nat} {v1 : Int32} {v2 : Int32} {v3 : Int32} {v4 : Int32} {v5 : Option Nat} {res : (Int32 × Int32) ⊕ (Int32)} (hf : f_X9_mean_48 M v0 v1 v2 v3 v4 v5 = some res) (ko : (mm_o (h_X9_mean_19 g M v0 v1 v2) (fun z => mm_q g 0 0 (some (mm_i z)) M)) res) : mm_X g 0 0 M 48 [(0, mm_r v0), (1, mm_i v1), (2, mm_i v2), (3, mm_i v3), (4, mm_i v4), (5, mm_r v5)] [] := by
  unfold f_X9_mean_48 at hf
  refine xr_iload_n 49 3 C dX9_mean_48 rfl rfl rfl ?_
  refine xr_aload 51 5 C dX9_mean_49 rfl rfl ?_
  refine xr_aload_n 52 0 C dX9_mean_51 rfl rfl rfl ?_
  obtain ⟨x52, h52, hf⟩ := mm_bd_e hf
  refine xr_getR 55 C cf_X9_25 rfl h52 dX9_mean_52 rfl ?_
  refine xr_iload 57 4 C dX9_mean_55 rfl rfl ?_
  obtain ⟨x57, h57, hf⟩ := mm_bd_e hf
  refine xr_aldR 58 C 15 (by decide) h57 dX9_mean_57 rfl ?_
  obtain ⟨x58, h58, hf⟩ := mm_bd_e hf
  refine xr_getI 61 C cf_X9_108 rfl h58 dX9_mean_58 rfl ?_
  refine xr_aload_n 62 0 C dX9_mean_61 rfl rfl rfl ?_
  obtain ⟨x62, h62, hf⟩ := mm_bd_e hf
  refine xr_getR 65 C cf_X9_12 rfl h62 dX9_mean_62 rfl ?_
  obtain ⟨u65, g65, hf⟩ := mm_bd_e hf
  obtain ⟨x65, h65, hf⟩ := mm_bd_e hf
  refine xr_callV 68 C [mm_i x58, mm_r x62] cm_X9_232 (fun l G cy => c_X8_chanceOn l G cy h65) g65 rfl rfl ⟨⟨Nat.le_of_ble_eq_true rfl, Nat.le_of_ble_eq_true rfl⟩, (Nat.le_of_ble_eq_true rfl), (Nat.le_of_ble_eq_true rfl)⟩ (Nat.le_of_ble_eq_true rfl) dX9_mean_65 rfl ?_
  refine xr_iadd 69 C dX9_mean_68 rfl ?_
  refine xr_istore_n 70 C dX9_mean_69 rfl (by decide) rfl [(3, mm_i (v3 + x65)), (0, mm_r v0), (1, mm_i v1), (2, mm_i v2), (4, mm_i v4), (5, mm_r v5)] rfl ?_
  refine xr_sub [1, 2, 3, 0, 4] (lv2 := [(0, mm_r v0), (1, mm_i v1), (2, mm_i v2), (3, mm_i (v3 + x65)), (4, mm_i v4)]) rfl ?_
  exact w_X9_mean_70 C hf ko
noncomputable def f_X9_mean_29 (M : mm_M) (v0 : Option Nat) (v1 : Int32) (v2 : Int32) (v3 : Int32) (v4 : Int32) : Option ((Int32 × Int32) ⊕ (Int32)) :=
  (mm_fR M v0 10 2).bind fun x30 =>
  (mm_aR M x30 15 v4).bind fun x35 =>
  (mm_rc M x35 7).bind fun u38 =>
  (f_X6_memoryOf M x35 v1 v2).bind fun x38 =>
  if x38 = none then f_X9_mean_70 M v0 v1 v2 v3 v4 else f_X9_mean_48 M v0 v1 v2 v3 v4 x38
set_option maxRecDepth 20000 in
theorem w_X9_mean_29 {g : mm_c} (C : mm_ok g cX9_mean "LessonCards" (some .int) "mean" 6 5 108 0 0) {M : mm_M} {v0 : Option Nat} {v1 : Int32} {v2 : Int32} {v3 : Int32} {v4 : Int32} {res : (Int32 × Int32) ⊕ (Int32)} (hf : f_X9_mean_29 M v0 v1 v2 v3 v4 = some res) (ko : (mm_o (h_X9_mean_19 g M v0 v1 v2) (fun z => mm_q g 0 0 (some (mm_i z)) M)) res) : mm_X g 0 0 M 29 [(0, mm_r v0), (1, mm_i v1), (2, mm_i v2), (3, mm_i v3), (4, mm_i v4)] [] := by
  unfold f_X9_mean_29 at hf
  refine xr_aload_n 30 0 C dX9_mean_29 rfl rfl rfl ?_
  obtain ⟨x30, h30, hf⟩ := mm_bd_e hf
  refine xr_getR 33 C cf_X9_25 rfl h30 dX9_mean_30 rfl ?_
  refine xr_iload 35 4 C dX9_mean_33 rfl rfl ?_
  obtain ⟨x35, h35, hf⟩ := mm_bd_e hf
  refine xr_aldR 36 C 15 (by decide) h35 dX9_mean_35 rfl ?_
  refine xr_iload_n 37 1 C dX9_mean_36 rfl rfl rfl ?_
  refine xr_iload_n 38 2 C dX9_mean_37 rfl rfl rfl ?_
  obtain ⟨u38, g38, hf⟩ := mm_bd_e hf
  obtain ⟨x38, h38, hf⟩ := mm_bd_e hf
  refine xr_callV 41 C [mm_i v1, mm_i v2] cm_X9_229 (fun l G cy => c_X6_memoryOf l G cy h38) g38 rfl rfl ⟨⟨Nat.le_of_ble_eq_true rfl, Nat.le_of_ble_eq_true rfl⟩, (Nat.le_of_ble_eq_true rfl), (Nat.le_of_ble_eq_true rfl)⟩ (Nat.le_of_ble_eq_true rfl) dX9_mean_38 rfl ?_
  refine xr_astore 43 C dX9_mean_41 (by decide) rfl [(5, mm_r x38), (0, mm_r v0), (1, mm_i v1), (2, mm_i v2), (3, mm_i v3), (4, mm_i v4)] rfl ?_
  refine xr_aload 45 0 C dX9_mean_43 rfl rfl ?_
  refine xr_ifnull 70 48 C dX9_mean_45 (by decide) rfl (fun hc => ?_) (fun hc => ?_)
  · replace hf := (if_pos hc).symm.trans hf
    refine xr_sub [1, 2, 3, 4, 5] (lv2 := [(0, mm_r v0), (1, mm_i v1), (2, mm_i v2), (3, mm_i v3), (4, mm_i v4)]) rfl ?_
    exact w_X9_mean_70 C hf ko
  · replace hf := (if_neg hc).symm.trans hf
    refine xr_sub [1, 2, 3, 4, 5, 0] (lv2 := [(0, mm_r v0), (1, mm_i v1), (2, mm_i v2), (3, mm_i v3), (4, mm_i v4), (5, mm_r x38)]) rfl ?_
    exact w_X9_mean_48 C hf ko
noncomputable def f_X9_mean_76 (M : mm_M) (v3 : Int32) : Option (Int32) :=
  some v3
set_option maxRecDepth 20000 in
theorem w_X9_mean_76 {g : mm_c} (C : mm_ok g cX9_mean "LessonCards" (some .int) "mean" 6 5 108 0 0) {M : mm_M} {v3 : Int32} {res : Int32} (hf : f_X9_mean_76 M v3 = some res) (ko : (fun z => mm_q g 0 0 (some (mm_i z)) M) res) : mm_X g 0 0 M 76 [(3, mm_i v3)] [] := by
  unfold f_X9_mean_76 at hf
  refine xr_iload_n 77 0 C dX9_mean_76 rfl rfl rfl ?_
  obtain rfl := Option.some.inj hf
  exact xr_iret C ko ⟨(Nat.le_of_ble_eq_true rfl), (Nat.le_of_ble_eq_true rfl)⟩ dX9_mean_77
noncomputable def f_X9_mean_19 (M : mm_M) (v0 : Option Nat) (v1 : Int32) (v2 : Int32) (v3 : Int32) (v4 : Int32) : Option ((Int32 × Int32) ⊕ (Int32)) :=
  (mm_fR M v0 10 2).bind fun x22 =>
  (mm_ln M x22).bind fun x25 =>
  if x25 ≤ v4 then mm_mp (f_X9_mean_76 M v3) else f_X9_mean_29 M v0 v1 v2 v3 v4
set_option maxRecDepth 20000 in
theorem w_X9_mean_19 {g : mm_c} (C : mm_ok g cX9_mean "LessonCards" (some .int) "mean" 6 5 108 0 0) {M : mm_M} {v0 : Option Nat} {v1 : Int32} {v2 : Int32} {v3 : Int32} {v4 : Int32} {res : (Int32 × Int32) ⊕ (Int32)} (hf : f_X9_mean_19 M v0 v1 v2 v3 v4 = some res) (ko : (mm_o (h_X9_mean_19 g M v0 v1 v2) (fun z => mm_q g 0 0 (some (mm_i z)) M)) res) : mm_X g 0 0 M 19 [(0, mm_r v0), (1, mm_i v1), (2, mm_i v2), (3, mm_i v3), (4, mm_i v4)] [] := by
  unfold f_X9_mean_19 at hf
  refine xr_iload 21 4 C dX9_mean_19 rfl rfl ?_
  refine xr_aload_n 22 0 C dX9_mean_21 rfl rfl rfl ?_
  obtain ⟨x22, h22, hf⟩ := mm_bd_e hf
  refine xr_getR 25 C cf_X9_25 rfl h22 dX9_mean_22 rfl ?_
  obtain ⟨x25, h25, hf⟩ := mm_bd_e hf
  refine xr_alen 26 C h25 dX9_mean_25 rfl ?_
  refine xr_icmp_ge 76 29 C dX9_mean_26 (by decide) rfl (fun hc => ?_) (fun hc => ?_)
  · replace hf := (if_pos hc).symm.trans hf
    refine xr_sub [3] (lv2 := [(3, mm_i v3)]) rfl ?_
    obtain ⟨z, hf2, rfl⟩ := mm_mp_e hf
    clear hf
    have hf := hf2
    clear hf2
    exact w_X9_mean_76 C hf ko
  · replace hf := (if_neg hc).symm.trans hf
    exact w_X9_mean_29 C hf ko
noncomputable def f_X9_mean_19w (M : mm_M) (v0 : Option Nat) (v1 : Int32) (v2 : Int32) (v3 : Int32) (v4 : Int32) : Option (Int32) := mm_w (fun x => f_X9_mean_19 M v0 v1 v2 x.1 x.2) (v3, v4)
theorem l_X9_mean_19 {g : mm_c} (C : mm_ok g cX9_mean "LessonCards" (some .int) "mean" 6 5 108 0 0) {M : mm_M} {v0 : Option Nat} {v1 : Int32} {v2 : Int32} {v3 : Int32} {v4 : Int32} {res : Int32} (hf : f_X9_mean_19w M v0 v1 v2 v3 v4 = some res) (ko : (fun z => mm_q g 0 0 (some (mm_i z)) M) res) : mm_X g 0 0 M 19 [(0, mm_r v0), (1, mm_i v1), (2, mm_i v2), (3, mm_i v3), (4, mm_i v4)] [] :=
  mm_w_W (body := fun x => f_X9_mean_19 M v0 v1 v2 x.1 x.2) (Wh := h_X9_mean_19 g M v0 v1 v2) (ok := (fun z => mm_q g 0 0 (some (mm_i z)) M)) (x := (v3, v4)) (fun x r hb ho => w_X9_mean_19 C hb ho) hf ko
noncomputable def f_X9_mean_14 (M : mm_M) (v0 : Option Nat) (v1 : Int32) (v2 : Int32) : Option (Int32) :=
  f_X9_mean_19w M v0 v1 v2 0 0
set_option maxRecDepth 20000 in
theorem w_X9_mean_14 {g : mm_c} (C : mm_ok g cX9_mean "LessonCards" (some .int) "mean" 6 5 108 0 0) {M : mm_M} {v0 : Option Nat} {v1 : Int32} {v2 : Int32} {res : Int32} (hf : f_X9_mean_14 M v0 v1 v2 = some res) (ko : (fun z => mm_q g 0 0 (some (mm_i z)) M) res) : mm_X g 0 0 M 14 [(0, mm_r v0), (1, mm_i v1), (2, mm_i v2)] [] := by
  unfold f_X9_mean_14 at hf
  refine xr_iconst 15 C (v := 0) dX9_mean_14 (by decide) rfl ?_
  refine xr_istore_n 16 C dX9_mean_15 rfl (by decide) rfl [(3, mm_i 0), (0, mm_r v0), (1, mm_i v1), (2, mm_i v2)] rfl ?_
  refine xr_iconst 17 C (v := 0) dX9_mean_16 (by decide) rfl ?_
  refine xr_istore 19 C dX9_mean_17 (by decide) rfl [(4, mm_i 0), (3, mm_i 0), (0, mm_r v0), (1, mm_i v1), (2, mm_i v2)] rfl ?_
  refine xr_sub [2, 3, 4, 1, 0] (lv2 := [(0, mm_r v0), (1, mm_i v1), (2, mm_i v2), (3, mm_i 0), (4, mm_i 0)]) rfl ?_
  exact l_X9_mean_19 C hf ko
noncomputable def f_X9_mean_0 (M : mm_M) (v0 : Option Nat) (v1 : Int32) (v2 : Int32) : Option (Int32) :=
  (mm_fR M v0 10 3).bind fun x1 =>
  (mm_rc M x1 7).bind fun u6 =>
  (f_X6_memoryOf M x1 v1 v2).bind fun x6 =>
  if x6 = none then f_X9_mean_12 M else f_X9_mean_14 M v0 v1 v2
set_option maxRecDepth 20000 in
theorem w_X9_mean_0 {g : mm_c} (C : mm_ok g cX9_mean "LessonCards" (some .int) "mean" 6 5 108 0 0) {M : mm_M} {v0 : Option Nat} {v1 : Int32} {v2 : Int32} {res : Int32} (hf : f_X9_mean_0 M v0 v1 v2 = some res) (ko : (fun z => mm_q g 0 0 (some (mm_i z)) M) res) : mm_X g 0 0 M 0 [(0, mm_r v0), (1, mm_i v1), (2, mm_i v2)] [] := by
  unfold f_X9_mean_0 at hf
  refine xr_aload_n 1 0 C dX9_mean_0 rfl rfl rfl ?_
  obtain ⟨x1, h1, hf⟩ := mm_bd_e hf
  refine xr_getR 4 C cf_X9_30 rfl h1 dX9_mean_1 rfl ?_
  refine xr_iload_n 5 1 C dX9_mean_4 rfl rfl rfl ?_
  refine xr_iload_n 6 2 C dX9_mean_5 rfl rfl rfl ?_
  obtain ⟨u6, g6, hf⟩ := mm_bd_e hf
  obtain ⟨x6, h6, hf⟩ := mm_bd_e hf
  refine xr_callV 9 C [mm_i v1, mm_i v2] cm_X9_229 (fun l G cy => c_X6_memoryOf l G cy h6) g6 rfl rfl ⟨⟨Nat.le_of_ble_eq_true rfl, Nat.le_of_ble_eq_true rfl⟩, (Nat.le_of_ble_eq_true rfl), (Nat.le_of_ble_eq_true rfl)⟩ (Nat.le_of_ble_eq_true rfl) dX9_mean_6 rfl ?_
  refine xr_ifnonnull 14 12 C dX9_mean_9 (by decide) rfl (fun hc => ?_) (fun hc => ?_)
  · replace hf := (if_neg hc).symm.trans hf
    exact w_X9_mean_14 C hf ko
  · replace hf := (if_pos hc).symm.trans hf
    refine xr_sub [] (lv2 := []) rfl ?_
    exact w_X9_mean_12 C hf ko
noncomputable def f_X9_mean (M : mm_M) (v0 : Option Nat) (v1 : Int32) (v2 : Int32) : Option (Int32) := f_X9_mean_0 M v0 v1 v2
theorem c_X9_mean (l : Launch) (G : va_G) (cy : Nat → ClassId) {M : mm_M} {v0 : Option Nat} {v1 : Int32} {v2 : Int32} {r : Int32} (hf : f_X9_mean M v0 v1 v2 = some r) : mm_Met l yX9_mean cX9_mean 6 (some .int) 5 108 0 0 G cy [mm_r v0, mm_i v1, mm_i v2] M (some (mm_i r)) M :=
  mm_enter (by decide) (Nat.le_of_ble_eq_true rfl) (fun p e R s m args below meth c Q C hq => xr_sub [0, 1, 2] (lv2 := [(0, mm_r v0), (1, mm_i v1), (2, mm_i v2)]) rfl (w_X9_mean_0 C hf hq))
def h_X9_isAskedOn_6 (g : mm_c) (v0 : Option Nat) (v1 : Option Nat) (v2 : Int32) (v3 : Int32) : (mm_M × Int32 × Int32) → Prop := fun x => mm_X g 0 0 x.1 6 [(0, mm_r v0), (1, mm_r v1), (2, mm_i v2), (3, mm_i v3), (4, mm_i x.2.1), (5, mm_i x.2.2)] []
noncomputable def f_X9_isAskedOn_80 (M : mm_M) (v0 : Option Nat) (v1 : Option Nat) (v2 : Int32) (v3 : Int32) (v4 : Int32) (v5 : Int32) : Option ((mm_M × Int32 × Int32) ⊕ (Int32 × mm_M)) :=
  some (.inl (M, v4, (v5 + 1)))
set_option maxRecDepth 20000 in
theorem w_X9_isAskedOn_80 {g : mm_c} (C : mm_ok g cX9_isAskedOn "LessonCards" (some .boolean) "isAskedOn" 7 4 95 0 0) {M : mm_M} {v0 : Option Nat} {v1 : Option Nat} {v2 : Int32} {v3 : Int32} {v4 : Int32} {v5 : Int32} {res : (mm_M × Int32 × Int32) ⊕ (Int32 × mm_M)} (hf : f_X9_isAskedOn_80 M v0 v1 v2 v3 v4 v5 = some res) (ko : (mm_o (h_X9_isAskedOn_6 g v0 v1 v2 v3) (fun z => mm_q g 0 0 (some (mm_i z.1)) z.2)) res) : mm_X g 0 0 M 80 [(0, mm_r v0), (1, mm_r v1), (2, mm_i v2), (3, mm_i v3), (4, mm_i v4), (5, mm_i v5)] [] := by
  unfold f_X9_isAskedOn_80 at hf
  refine xr_iinc 83 5 C dX9_isAskedOn_80 rfl (by decide) (v := 1) (by decide) rfl [(5, mm_i (v5 + 1)), (0, mm_r v0), (1, mm_r v1), (2, mm_i v2), (3, mm_i v3), (4, mm_i v4)] rfl ?_
  refine xr_goto 6 C dX9_isAskedOn_83 (by decide) ?_
  refine xr_sub [1, 2, 3, 4, 5, 0] (lv2 := [(0, mm_r v0), (1, mm_r v1), (2, mm_i v2), (3, mm_i v3), (4, mm_i v4), (5, mm_i (v5 + 1))]) rfl ?_
  obtain rfl := Option.some.inj hf
  exact ko
noncomputable def f_X9_isAskedOn_76 (M : mm_M) (v0 : Option Nat) (v1 : Option Nat) (v2 : Int32) (v3 : Int32) (v4 : Int32) (v5 : Int32) : Option ((mm_M × Int32 × Int32) ⊕ (Int32 × mm_M)) :=
  (mm_rc M v1 6).bind fun u77 =>
  (f_X5_forgetToday M v1).bind fun M77 =>
  f_X9_isAskedOn_80 M77 v0 v1 v2 v3 v4 v5
set_option maxRecDepth 20000 in
theorem w_X9_isAskedOn_76 {g : mm_c} (C : mm_ok g cX9_isAskedOn "LessonCards" (some .boolean) "isAskedOn" 7 4 95 0 0) {M : mm_M} {v0 : Option Nat} {v1 : Option Nat} {v2 : Int32} {v3 : Int32} {v4 : Int32} {v5 : Int32} {res : (mm_M × Int32 × Int32) ⊕ (Int32 × mm_M)} (hf : f_X9_isAskedOn_76 M v0 v1 v2 v3 v4 v5 = some res) (ko : (mm_o (h_X9_isAskedOn_6 g v0 v1 v2 v3) (fun z => mm_q g 0 0 (some (mm_i z.1)) z.2)) res) : mm_X g 0 0 M 76 [(0, mm_r v0), (1, mm_r v1), (2, mm_i v2), (3, mm_i v3), (4, mm_i v4), (5, mm_i v5)] [] := by
  unfold f_X9_isAskedOn_76 at hf
  refine xr_aload_n 77 1 C dX9_isAskedOn_76 rfl rfl rfl ?_
  obtain ⟨u77, g77, hf⟩ := mm_bd_e hf
  obtain ⟨M77, h77, hf⟩ := mm_bd_e hf
  refine xr_callV 80 C [] cm_X9_300 (fun l G cy => c_X5_forgetToday l G cy h77) g77 rfl rfl ⟨⟨Nat.le_of_ble_eq_true rfl, Nat.le_of_ble_eq_true rfl⟩, (Nat.le_of_ble_eq_true rfl), (Nat.le_of_ble_eq_true rfl)⟩ (Nat.le_of_ble_eq_true rfl) dX9_isAskedOn_77 rfl ?_
  exact w_X9_isAskedOn_80 C hf ko
noncomputable def f_X9_isAskedOn_71 (M : mm_M) (v0 : Option Nat) (v1 : Option Nat) (v2 : Int32) (v3 : Int32) (v4 : Int32) (v5 : Int32) : Option ((mm_M × Int32 × Int32) ⊕ (Int32 × mm_M)) :=
  if v5 = 0 then f_X9_isAskedOn_76 M v0 v1 v2 v3 v4 v5 else f_X9_isAskedOn_80 M v0 v1 v2 v3 v4 v5
set_option maxRecDepth 20000 in
theorem w_X9_isAskedOn_71 {g : mm_c} (C : mm_ok g cX9_isAskedOn "LessonCards" (some .boolean) "isAskedOn" 7 4 95 0 0) {M : mm_M} {v0 : Option Nat} {v1 : Option Nat} {v2 : Int32} {v3 : Int32} {v4 : Int32} {v5 : Int32} {res : (mm_M × Int32 × Int32) ⊕ (Int32 × mm_M)} (hf : f_X9_isAskedOn_71 M v0 v1 v2 v3 v4 v5 = some res) (ko : (mm_o (h_X9_isAskedOn_6 g v0 v1 v2 v3) (fun z => mm_q g 0 0 (some (mm_i z.1)) z.2)) res) : mm_X g 0 0 M 71 [(0, mm_r v0), (1, mm_r v1), (2, mm_i v2), (3, mm_i v3), (4, mm_i v4), (5, mm_i v5)] [] := by
  unfold f_X9_isAskedOn_71 at hf
  refine xr_iload 73 5 C dX9_isAskedOn_71 rfl rfl ?_
  refine xr_if_ne 80 76 C dX9_isAskedOn_73 (by decide) rfl (fun hc => ?_) (fun hc => ?_)
  · replace hf := (if_neg hc).symm.trans hf
    exact w_X9_isAskedOn_80 C hf ko
  · replace hf := (if_pos hc).symm.trans hf
    exact w_X9_isAskedOn_76 C hf ko
noncomputable def f_X9_isAskedOn_47 (M : mm_M) (v0 : Option Nat) (v1 : Option Nat) (v2 : Int32) (v3 : Int32) (v4 : Int32) (v5 : Int32) (v6 : Option Nat) : Option ((mm_M × Int32 × Int32) ⊕ (Int32 × mm_M)) :=
  (mm_fI M v0 10 8).bind fun x50 =>
  (mm_fR M v0 10 7).bind fun x55 =>
  (mm_aI M x55 12 2).bind fun x59 =>
  (mm_fR M v0 10 0).bind fun x65 =>
  (mm_rc M v6 9).bind fun u68 =>
  (f_X8_move M v6 x50 2 x59 (v2 + v5) x65).bind fun M68 =>
  f_X9_isAskedOn_71 M68 v0 v1 v2 v3 v4 v5
set_option maxRecDepth 20000 in
theorem w_X9_isAskedOn_47 {g : mm_c} (C : mm_ok g cX9_isAskedOn "LessonCards" (some .boolean) "isAskedOn" 7 4 95 0 0) {M : mm_M} {v0 : Option Nat} {v1 : Option Nat} {v2 : Int32} {v3 : Int32} {v4 : Int32} {v5 : Int32} {v6 : Option Nat} {res : (mm_M × Int32 × Int32) ⊕ (Int32 × mm_M)} (hf : f_X9_isAskedOn_47 M v0 v1 v2 v3 v4 v5 v6 = some res) (ko : (mm_o (h_X9_isAskedOn_6 g v0 v1 v2 v3) (fun z => mm_q g 0 0 (some (mm_i z.1)) z.2)) res) : mm_X g 0 0 M 47 [(0, mm_r v0), (1, mm_r v1), (2, mm_i v2), (3, mm_i v3), (4, mm_i v4), (5, mm_i v5), (6, mm_r v6)] [] := by
  unfold f_X9_isAskedOn_47 at hf
  refine xr_aload 49 6 C dX9_isAskedOn_47 rfl rfl ?_
  refine xr_aload_n 50 0 C dX9_isAskedOn_49 rfl rfl rfl ?_
  obtain ⟨x50, h50, hf⟩ := mm_bd_e hf
  refine xr_getI 53 C cf_X9_59 rfl h50 dX9_isAskedOn_50 rfl ?_
  refine xr_iconst 54 C (v := 2) dX9_isAskedOn_53 (by decide) rfl ?_
  refine xr_aload_n 55 0 C dX9_isAskedOn_54 rfl rfl rfl ?_
  obtain ⟨x55, h55, hf⟩ := mm_bd_e hf
  refine xr_getR 58 C cf_X9_55 rfl h55 dX9_isAskedOn_55 rfl ?_
  refine xr_iconst 59 C (v := 2) dX9_isAskedOn_58 (by decide) rfl ?_
  obtain ⟨x59, h59, hf⟩ := mm_bd_e hf
  refine xr_aldI 60 C h59 dX9_isAskedOn_59 rfl ?_
  refine xr_iload_n 61 2 C dX9_isAskedOn_60 rfl rfl rfl ?_
  refine xr_iload 63 5 C dX9_isAskedOn_61 rfl rfl ?_
  refine xr_iadd 64 C dX9_isAskedOn_63 rfl ?_
  refine xr_aload_n 65 0 C dX9_isAskedOn_64 rfl rfl rfl ?_
  obtain ⟨x65, h65, hf⟩ := mm_bd_e hf
  refine xr_getR 68 C cf_X9_12 rfl h65 dX9_isAskedOn_65 rfl ?_
  obtain ⟨u68, g68, hf⟩ := mm_bd_e hf
  obtain ⟨M68, h68, hf⟩ := mm_bd_e hf
  refine xr_callV 71 C [mm_i x50, mm_i 2, mm_i x59, mm_i (v2 + v5), mm_r x65] cm_X9_151 (fun l G cy => c_X8_move l G cy h68) g68 rfl rfl ⟨⟨Nat.le_of_ble_eq_true rfl, Nat.le_of_ble_eq_true rfl⟩, (Nat.le_of_ble_eq_true rfl), (Nat.le_of_ble_eq_true rfl)⟩ (Nat.le_of_ble_eq_true rfl) dX9_isAskedOn_68 rfl ?_
  refine xr_sub [0, 1, 2, 3, 4, 5] (lv2 := [(0, mm_r v0), (1, mm_r v1), (2, mm_i v2), (3, mm_i v3), (4, mm_i v4), (5, mm_i v5)]) rfl ?_
  exact w_X9_isAskedOn_71 C hf ko
noncomputable def f_X9_isAskedOn_40 (M : mm_M) (v0 : Option Nat) (v1 : Option Nat) (v2 : Int32) (v3 : Int32) (v5 : Int32) (v6 : Option Nat) (s0 : Int32) : Option ((mm_M × Int32 × Int32) ⊕ (Int32 × mm_M)) :=
  if v6 = none then f_X9_isAskedOn_71 M v0 v1 v2 v3 s0 v5 else f_X9_isAskedOn_47 M v0 v1 v2 v3 s0 v5 v6
set_option maxRecDepth 20000 in
theorem w_X9_isAskedOn_40 {g : mm_c} (C : mm_ok g cX9_isAskedOn "LessonCards" (some .boolean) "isAskedOn" 7 4 95 0 0) {M : mm_M} {v0 : Option Nat} {v1 : Option Nat} {v2 : Int32} {v3 : Int32} {v5 : Int32} {v6 : Option Nat} {s0 : Int32} {res : (mm_M × Int32 × Int32) ⊕ (Int32 × mm_M)} (hf : f_X9_isAskedOn_40 M v0 v1 v2 v3 v5 v6 s0 = some res) (ko : (mm_o (h_X9_isAskedOn_6 g v0 v1 v2 v3) (fun z => mm_q g 0 0 (some (mm_i z.1)) z.2)) res) : mm_X g 0 0 M 40 [(0, mm_r v0), (1, mm_r v1), (2, mm_i v2), (3, mm_i v3), (5, mm_i v5), (6, mm_r v6)] [mm_i s0] := by
  unfold f_X9_isAskedOn_40 at hf
  refine xr_istore 42 C dX9_isAskedOn_40 (by decide) rfl [(4, mm_i s0), (0, mm_r v0), (1, mm_r v1), (2, mm_i v2), (3, mm_i v3), (5, mm_i v5), (6, mm_r v6)] rfl ?_
  refine xr_aload 44 6 C dX9_isAskedOn_42 rfl rfl ?_
  refine xr_ifnull 71 47 C dX9_isAskedOn_44 (by decide) rfl (fun hc => ?_) (fun hc => ?_)
  · replace hf := (if_pos hc).symm.trans hf
    refine xr_sub [1, 2, 3, 4, 0, 5] (lv2 := [(0, mm_r v0), (1, mm_r v1), (2, mm_i v2), (3, mm_i v3), (4, mm_i s0), (5, mm_i v5)]) rfl ?_
    exact w_X9_isAskedOn_71 C hf ko
  · replace hf := (if_neg hc).symm.trans hf
    refine xr_sub [1, 2, 3, 4, 0, 5, 6] (lv2 := [(0, mm_r v0), (1, mm_r v1), (2, mm_i v2), (3, mm_i v3), (4, mm_i s0), (5, mm_i v5), (6, mm_r v6)]) rfl ?_
    exact w_X9_isAskedOn_47 C hf ko
noncomputable def f_X9_isAskedOn_35 (M : mm_M) (v0 : Option Nat) (v1 : Option Nat) (v2 : Int32) (v3 : Int32) (v5 : Int32) (v6 : Option Nat) : Option ((mm_M × Int32 × Int32) ⊕ (Int32 × mm_M)) :=
  f_X9_isAskedOn_40 M v0 v1 v2 v3 v5 v6 1
set_option maxRecDepth 20000 in
theorem w_X9_isAskedOn_35 {g : mm_c} (C : mm_ok g cX9_isAskedOn "LessonCards" (some .boolean) "isAskedOn" 7 4 95 0 0) {M : mm_M} {v0 : Option Nat} {v1 : Option Nat} {v2 : Int32} {v3 : Int32} {v5 : Int32} {v6 : Option Nat} {res : (mm_M × Int32 × Int32) ⊕ (Int32 × mm_M)} (hf : f_X9_isAskedOn_35 M v0 v1 v2 v3 v5 v6 = some res) (ko : (mm_o (h_X9_isAskedOn_6 g v0 v1 v2 v3) (fun z => mm_q g 0 0 (some (mm_i z.1)) z.2)) res) : mm_X g 0 0 M 35 [(0, mm_r v0), (1, mm_r v1), (2, mm_i v2), (3, mm_i v3), (5, mm_i v5), (6, mm_r v6)] [] := by
  unfold f_X9_isAskedOn_35 at hf
  refine xr_iconst 36 C (v := 1) dX9_isAskedOn_35 (by decide) rfl ?_
  refine xr_goto 40 C dX9_isAskedOn_36 (by decide) ?_
  exact w_X9_isAskedOn_40 C hf ko
noncomputable def f_X9_isAskedOn_39 (M : mm_M) (v0 : Option Nat) (v1 : Option Nat) (v2 : Int32) (v3 : Int32) (v5 : Int32) (v6 : Option Nat) : Option ((mm_M × Int32 × Int32) ⊕ (Int32 × mm_M)) :=
  f_X9_isAskedOn_40 M v0 v1 v2 v3 v5 v6 0
set_option maxRecDepth 20000 in
theorem w_X9_isAskedOn_39 {g : mm_c} (C : mm_ok g cX9_isAskedOn "LessonCards" (some .boolean) "isAskedOn" 7 4 95 0 0) {M : mm_M} {v0 : Option Nat} {v1 : Option Nat} {v2 : Int32} {v3 : Int32} {v5 : Int32} {v6 : Option Nat} {res : (mm_M × Int32 × Int32) ⊕ (Int32 × mm_M)} (hf : f_X9_isAskedOn_39 M v0 v1 v2 v3 v5 v6 = some res) (ko : (mm_o (h_X9_isAskedOn_6 g v0 v1 v2 v3) (fun z => mm_q g 0 0 (some (mm_i z.1)) z.2)) res) : mm_X g 0 0 M 39 [(0, mm_r v0), (1, mm_r v1), (2, mm_i v2), (3, mm_i v3), (5, mm_i v5), (6, mm_r v6)] [] := by
  unfold f_X9_isAskedOn_39 at hf
  refine xr_iconst 40 C (v := 0) dX9_isAskedOn_39 (by decide) rfl ?_
  exact w_X9_isAskedOn_40 C hf ko
noncomputable def f_X9_isAskedOn_12 (M : mm_M) (v0 : Option Nat) (v1 : Option Nat) (v2 : Int32) (v3 : Int32) (v5 : Int32) : Option ((mm_M × Int32 × Int32) ⊕ (Int32 × mm_M)) :=
  (mm_fR M v0 10 0).bind fun x19 =>
  (mm_rc M v1 6).bind fun u22 =>
  (f_X5_mostUrgent M v1 (v2 + v5) x19).bind fun x22 =>
  (mm_rc M v1 6).bind fun u25 =>
  (f_X5_memoryAt M v1 x22).bind fun x25 =>
  if x25 = none then f_X9_isAskedOn_39 M v0 v1 v2 v3 v5 x25 else f_X9_isAskedOn_35 M v0 v1 v2 v3 v5 x25
set_option maxRecDepth 20000 in
theorem w_X9_isAskedOn_12 {g : mm_c} (C : mm_ok g cX9_isAskedOn "LessonCards" (some .boolean) "isAskedOn" 7 4 95 0 0) {M : mm_M} {v0 : Option Nat} {v1 : Option Nat} {v2 : Int32} {v3 : Int32} {v5 : Int32} {res : (mm_M × Int32 × Int32) ⊕ (Int32 × mm_M)} (hf : f_X9_isAskedOn_12 M v0 v1 v2 v3 v5 = some res) (ko : (mm_o (h_X9_isAskedOn_6 g v0 v1 v2 v3) (fun z => mm_q g 0 0 (some (mm_i z.1)) z.2)) res) : mm_X g 0 0 M 12 [(0, mm_r v0), (1, mm_r v1), (2, mm_i v2), (3, mm_i v3), (5, mm_i v5)] [] := by
  unfold f_X9_isAskedOn_12 at hf
  refine xr_aload_n 13 1 C dX9_isAskedOn_12 rfl rfl rfl ?_
  refine xr_aload_n 14 1 C dX9_isAskedOn_13 rfl rfl rfl ?_
  refine xr_iload_n 15 2 C dX9_isAskedOn_14 rfl rfl rfl ?_
  refine xr_iload 17 4 C dX9_isAskedOn_15 rfl rfl ?_
  refine xr_iadd 18 C dX9_isAskedOn_17 rfl ?_
  refine xr_aload_n 19 0 C dX9_isAskedOn_18 rfl rfl rfl ?_
  obtain ⟨x19, h19, hf⟩ := mm_bd_e hf
  refine xr_getR 22 C cf_X9_12 rfl h19 dX9_isAskedOn_19 rfl ?_
  obtain ⟨u22, g22, hf⟩ := mm_bd_e hf
  obtain ⟨x22, h22, hf⟩ := mm_bd_e hf
  refine xr_callV 25 C [mm_i (v2 + v5), mm_r x19] cm_X9_296 (fun l G cy => c_X5_mostUrgent l G cy h22) g22 rfl rfl ⟨⟨Nat.le_of_ble_eq_true rfl, Nat.le_of_ble_eq_true rfl⟩, (Nat.le_of_ble_eq_true rfl), (Nat.le_of_ble_eq_true rfl)⟩ (Nat.le_of_ble_eq_true rfl) dX9_isAskedOn_22 rfl ?_
  obtain ⟨u25, g25, hf⟩ := mm_bd_e hf
  obtain ⟨x25, h25, hf⟩ := mm_bd_e hf
  refine xr_callV 28 C [mm_i x22] cm_X9_299 (fun l G cy => c_X5_memoryAt l G cy h25) g25 rfl rfl ⟨⟨Nat.le_of_ble_eq_true rfl, Nat.le_of_ble_eq_true rfl⟩, (Nat.le_of_ble_eq_true rfl), (Nat.le_of_ble_eq_true rfl)⟩ (Nat.le_of_ble_eq_true rfl) dX9_isAskedOn_25 rfl ?_
  refine xr_astore 30 C dX9_isAskedOn_28 (by decide) rfl [(6, mm_r x25), (0, mm_r v0), (1, mm_r v1), (2, mm_i v2), (3, mm_i v3), (5, mm_i v5)] rfl ?_
  refine xr_aload 32 0 C dX9_isAskedOn_30 rfl rfl ?_
  refine xr_ifnull 39 35 C dX9_isAskedOn_32 (by decide) rfl (fun hc => ?_) (fun hc => ?_)
  · replace hf := (if_pos hc).symm.trans hf
    refine xr_sub [1, 2, 3, 4, 5, 0] (lv2 := [(0, mm_r v0), (1, mm_r v1), (2, mm_i v2), (3, mm_i v3), (5, mm_i v5), (6, mm_r x25)]) rfl ?_
    exact w_X9_isAskedOn_39 C hf ko
  · replace hf := (if_neg hc).symm.trans hf
    refine xr_sub [1, 2, 3, 4, 5, 0] (lv2 := [(0, mm_r v0), (1, mm_r v1), (2, mm_i v2), (3, mm_i v3), (5, mm_i v5), (6, mm_r x25)]) rfl ?_
    exact w_X9_isAskedOn_35 C hf ko
noncomputable def f_X9_isAskedOn_86 (M : mm_M) (v4 : Int32) : Option (Int32 × mm_M) :=
  mm_gd (v4 = 0 ∨ v4 = 1) <|
  some (v4, M)
set_option maxRecDepth 20000 in
theorem w_X9_isAskedOn_86 {g : mm_c} (C : mm_ok g cX9_isAskedOn "LessonCards" (some .boolean) "isAskedOn" 7 4 95 0 0) {M : mm_M} {v4 : Int32} {res : Int32 × mm_M} (hf : f_X9_isAskedOn_86 M v4 = some res) (ko : (fun z => mm_q g 0 0 (some (mm_i z.1)) z.2) res) : mm_X g 0 0 M 86 [(4, mm_i v4)] [] := by
  unfold f_X9_isAskedOn_86 at hf
  refine xr_iload 88 0 C dX9_isAskedOn_86 rfl rfl ?_
  obtain ⟨hz, hf⟩ := mm_gd_e hf
  obtain rfl := Option.some.inj hf
  exact xr_zret C hz ko ⟨(Nat.le_of_ble_eq_true rfl), (Nat.le_of_ble_eq_true rfl)⟩ dX9_isAskedOn_88
noncomputable def f_X9_isAskedOn_6 (M : mm_M) (v0 : Option Nat) (v1 : Option Nat) (v2 : Int32) (v3 : Int32) (v4 : Int32) (v5 : Int32) : Option ((mm_M × Int32 × Int32) ⊕ (Int32 × mm_M)) :=
  if v3 < v5 then mm_mp (f_X9_isAskedOn_86 M v4) else f_X9_isAskedOn_12 M v0 v1 v2 v3 v5
set_option maxRecDepth 20000 in
theorem w_X9_isAskedOn_6 {g : mm_c} (C : mm_ok g cX9_isAskedOn "LessonCards" (some .boolean) "isAskedOn" 7 4 95 0 0) {M : mm_M} {v0 : Option Nat} {v1 : Option Nat} {v2 : Int32} {v3 : Int32} {v4 : Int32} {v5 : Int32} {res : (mm_M × Int32 × Int32) ⊕ (Int32 × mm_M)} (hf : f_X9_isAskedOn_6 M v0 v1 v2 v3 v4 v5 = some res) (ko : (mm_o (h_X9_isAskedOn_6 g v0 v1 v2 v3) (fun z => mm_q g 0 0 (some (mm_i z.1)) z.2)) res) : mm_X g 0 0 M 6 [(0, mm_r v0), (1, mm_r v1), (2, mm_i v2), (3, mm_i v3), (4, mm_i v4), (5, mm_i v5)] [] := by
  unfold f_X9_isAskedOn_6 at hf
  refine xr_iload 8 5 C dX9_isAskedOn_6 rfl rfl ?_
  refine xr_iload_n 9 3 C dX9_isAskedOn_8 rfl rfl rfl ?_
  refine xr_icmp_gt 86 12 C dX9_isAskedOn_9 (by decide) rfl (fun hc => ?_) (fun hc => ?_)
  · replace hf := (if_pos hc).symm.trans hf
    refine xr_sub [4] (lv2 := [(4, mm_i v4)]) rfl ?_
    obtain ⟨z, hf2, rfl⟩ := mm_mp_e hf
    clear hf
    have hf := hf2
    clear hf2
    exact w_X9_isAskedOn_86 C hf ko
  · replace hf := (if_neg hc).symm.trans hf
    refine xr_sub [0, 1, 2, 3, 5] (lv2 := [(0, mm_r v0), (1, mm_r v1), (2, mm_i v2), (3, mm_i v3), (5, mm_i v5)]) rfl ?_
    exact w_X9_isAskedOn_12 C hf ko
noncomputable def f_X9_isAskedOn_6w (M : mm_M) (v0 : Option Nat) (v1 : Option Nat) (v2 : Int32) (v3 : Int32) (v4 : Int32) (v5 : Int32) : Option (Int32 × mm_M) := mm_w (fun x => f_X9_isAskedOn_6 x.1 v0 v1 v2 v3 x.2.1 x.2.2) (M, v4, v5)
theorem l_X9_isAskedOn_6 {g : mm_c} (C : mm_ok g cX9_isAskedOn "LessonCards" (some .boolean) "isAskedOn" 7 4 95 0 0) {M : mm_M} {v0 : Option Nat} {v1 : Option Nat} {v2 : Int32} {v3 : Int32} {v4 : Int32} {v5 : Int32} {res : Int32 × mm_M} (hf : f_X9_isAskedOn_6w M v0 v1 v2 v3 v4 v5 = some res) (ko : (fun z => mm_q g 0 0 (some (mm_i z.1)) z.2) res) : mm_X g 0 0 M 6 [(0, mm_r v0), (1, mm_r v1), (2, mm_i v2), (3, mm_i v3), (4, mm_i v4), (5, mm_i v5)] [] :=
  mm_w_W (body := fun x => f_X9_isAskedOn_6 x.1 v0 v1 v2 v3 x.2.1 x.2.2) (Wh := h_X9_isAskedOn_6 g v0 v1 v2 v3) (ok := (fun z => mm_q g 0 0 (some (mm_i z.1)) z.2)) (x := (M, v4, v5)) (fun x r hb ho => w_X9_isAskedOn_6 C hb ho) hf ko
noncomputable def f_X9_isAskedOn_0 (M : mm_M) (v0 : Option Nat) (v1 : Option Nat) (v2 : Int32) (v3 : Int32) : Option (Int32 × mm_M) :=
  f_X9_isAskedOn_6w M v0 v1 v2 v3 0 0
set_option maxRecDepth 20000 in
theorem w_X9_isAskedOn_0 {g : mm_c} (C : mm_ok g cX9_isAskedOn "LessonCards" (some .boolean) "isAskedOn" 7 4 95 0 0) {M : mm_M} {v0 : Option Nat} {v1 : Option Nat} {v2 : Int32} {v3 : Int32} {res : Int32 × mm_M} (hf : f_X9_isAskedOn_0 M v0 v1 v2 v3 = some res) (ko : (fun z => mm_q g 0 0 (some (mm_i z.1)) z.2) res) : mm_X g 0 0 M 0 [(0, mm_r v0), (1, mm_r v1), (2, mm_i v2), (3, mm_i v3)] [] := by
  unfold f_X9_isAskedOn_0 at hf
  refine xr_iconst 1 C (v := 0) dX9_isAskedOn_0 (by decide) rfl ?_
  refine xr_istore 3 C dX9_isAskedOn_1 (by decide) rfl [(4, mm_i 0), (0, mm_r v0), (1, mm_r v1), (2, mm_i v2), (3, mm_i v3)] rfl ?_
  refine xr_iconst 4 C (v := 0) dX9_isAskedOn_3 (by decide) rfl ?_
  refine xr_istore 6 C dX9_isAskedOn_4 (by decide) rfl [(5, mm_i 0), (4, mm_i 0), (0, mm_r v0), (1, mm_r v1), (2, mm_i v2), (3, mm_i v3)] rfl ?_
  refine xr_sub [2, 3, 4, 5, 1, 0] (lv2 := [(0, mm_r v0), (1, mm_r v1), (2, mm_i v2), (3, mm_i v3), (4, mm_i 0), (5, mm_i 0)]) rfl ?_
  exact l_X9_isAskedOn_6 C hf ko
noncomputable def f_X9_isAskedOn (M : mm_M) (v0 : Option Nat) (v1 : Option Nat) (v2 : Int32) (v3 : Int32) : Option (Int32 × mm_M) := f_X9_isAskedOn_0 M v0 v1 v2 v3
theorem c_X9_isAskedOn (l : Launch) (G : va_G) (cy : Nat → ClassId) {M : mm_M} {v0 : Option Nat} {v1 : Option Nat} {v2 : Int32} {v3 : Int32} {r : Int32} {M1 : mm_M} (hf : f_X9_isAskedOn M v0 v1 v2 v3 = some (r, M1)) : mm_Met l yX9_isAskedOn cX9_isAskedOn 7 (some .boolean) 4 95 0 0 G cy [mm_r v0, mm_r v1, mm_i v2, mm_i v3] M (some (mm_i r)) M1 :=
  mm_enter (by decide) (Nat.le_of_ble_eq_true rfl) (fun p e R s m args below meth c Q C hq => xr_sub [0, 1, 2, 3] (lv2 := [(0, mm_r v0), (1, mm_r v1), (2, mm_i v2), (3, mm_i v3)]) rfl (w_X9_isAskedOn_0 C hf hq))
def h_X9_plan_28 (g : mm_c) (v0 : Option Nat) (v2 : Int32) (v3 : Option Nat) : (mm_M × Int32 × Int32) → Prop := fun x => mm_X g 0 0 x.1 28 [(0, mm_r v0), (2, mm_i v2), (3, mm_r v3), (4, mm_i x.2.1), (5, mm_i x.2.2)] []
noncomputable def f_X9_plan_20 (M : mm_M) : Option (Int32 × mm_M) :=
  some ((-1), M)
set_option maxRecDepth 20000 in
theorem w_X9_plan_20 {g : mm_c} (C : mm_ok g cX9_plan "LessonCards" (some .int) "plan" 8 5 121 0 0) {M : mm_M} {res : Int32 × mm_M} (hf : f_X9_plan_20 M = some res) (ko : (fun z => mm_q g 0 0 (some (mm_i z.1)) z.2) res) : mm_X g 0 0 M 20 [] [] := by
  unfold f_X9_plan_20 at hf
  refine xr_iconst 21 C (v := (-1)) dX9_plan_20 (by decide) rfl ?_
  obtain rfl := Option.some.inj hf
  exact xr_iret C ko ⟨(Nat.le_of_ble_eq_true rfl), (Nat.le_of_ble_eq_true rfl)⟩ dX9_plan_21
noncomputable def f_X9_plan_100 (M : mm_M) (v0 : Option Nat) (v2 : Int32) (v3 : Option Nat) (v4 : Int32) (v5 : Int32) : Option ((mm_M × Int32 × Int32) ⊕ (Int32 × mm_M)) :=
  some (.inl (M, v4, (v5 + 1)))
set_option maxRecDepth 20000 in
theorem w_X9_plan_100 {g : mm_c} (C : mm_ok g cX9_plan "LessonCards" (some .int) "plan" 8 5 121 0 0) {M : mm_M} {v0 : Option Nat} {v2 : Int32} {v3 : Option Nat} {v4 : Int32} {v5 : Int32} {res : (mm_M × Int32 × Int32) ⊕ (Int32 × mm_M)} (hf : f_X9_plan_100 M v0 v2 v3 v4 v5 = some res) (ko : (mm_o (h_X9_plan_28 g v0 v2 v3) (fun z => mm_q g 0 0 (some (mm_i z.1)) z.2)) res) : mm_X g 0 0 M 100 [(0, mm_r v0), (2, mm_i v2), (3, mm_r v3), (4, mm_i v4), (5, mm_i v5)] [] := by
  unfold f_X9_plan_100 at hf
  refine xr_iinc 103 4 C dX9_plan_100 rfl (by decide) (v := 1) (by decide) rfl [(5, mm_i (v5 + 1)), (0, mm_r v0), (2, mm_i v2), (3, mm_r v3), (4, mm_i v4)] rfl ?_
  refine xr_goto 28 C dX9_plan_103 (by decide) ?_
  refine xr_sub [1, 2, 3, 4, 0] (lv2 := [(0, mm_r v0), (2, mm_i v2), (3, mm_r v3), (4, mm_i v4), (5, mm_i (v5 + 1))]) rfl ?_
  obtain rfl := Option.some.inj hf
  exact ko
noncomputable def f_X9_plan_97 (M : mm_M) (v0 : Option Nat) (v2 : Int32) (v3 : Option Nat) (v5 : Int32) (s0 : Int32) (s1 : Int32) : Option ((mm_M × Int32 × Int32) ⊕ (Int32 × mm_M)) :=
  f_X9_plan_100 M v0 v2 v3 (s0 + s1) v5
set_option maxRecDepth 20000 in
theorem w_X9_plan_97 {g : mm_c} (C : mm_ok g cX9_plan "LessonCards" (some .int) "plan" 8 5 121 0 0) {M : mm_M} {v0 : Option Nat} {v2 : Int32} {v3 : Option Nat} {v5 : Int32} {s0 : Int32} {s1 : Int32} {res : (mm_M × Int32 × Int32) ⊕ (Int32 × mm_M)} (hf : f_X9_plan_97 M v0 v2 v3 v5 s0 s1 = some res) (ko : (mm_o (h_X9_plan_28 g v0 v2 v3) (fun z => mm_q g 0 0 (some (mm_i z.1)) z.2)) res) : mm_X g 0 0 M 97 [(0, mm_r v0), (2, mm_i v2), (3, mm_r v3), (5, mm_i v5)] [mm_i s1, mm_i s0] := by
  unfold f_X9_plan_97 at hf
  refine xr_iadd 98 C dX9_plan_97 rfl ?_
  refine xr_istore 100 C dX9_plan_98 (by decide) rfl [(4, mm_i (s0 + s1)), (0, mm_r v0), (2, mm_i v2), (3, mm_r v3), (5, mm_i v5)] rfl ?_
  refine xr_sub [1, 2, 3, 0, 4] (lv2 := [(0, mm_r v0), (2, mm_i v2), (3, mm_r v3), (4, mm_i (s0 + s1)), (5, mm_i v5)]) rfl ?_
  exact w_X9_plan_100 C hf ko
noncomputable def f_X9_plan_92 (M : mm_M) (v0 : Option Nat) (v2 : Int32) (v3 : Option Nat) (v5 : Int32) (s0 : Int32) : Option ((mm_M × Int32 × Int32) ⊕ (Int32 × mm_M)) :=
  f_X9_plan_97 M v0 v2 v3 v5 s0 1
set_option maxRecDepth 20000 in
theorem w_X9_plan_92 {g : mm_c} (C : mm_ok g cX9_plan "LessonCards" (some .int) "plan" 8 5 121 0 0) {M : mm_M} {v0 : Option Nat} {v2 : Int32} {v3 : Option Nat} {v5 : Int32} {s0 : Int32} {res : (mm_M × Int32 × Int32) ⊕ (Int32 × mm_M)} (hf : f_X9_plan_92 M v0 v2 v3 v5 s0 = some res) (ko : (mm_o (h_X9_plan_28 g v0 v2 v3) (fun z => mm_q g 0 0 (some (mm_i z.1)) z.2)) res) : mm_X g 0 0 M 92 [(0, mm_r v0), (2, mm_i v2), (3, mm_r v3), (5, mm_i v5)] [mm_i s0] := by
  unfold f_X9_plan_92 at hf
  refine xr_iconst 93 C (v := 1) dX9_plan_92 (by decide) rfl ?_
  refine xr_goto 97 C dX9_plan_93 (by decide) ?_
  exact w_X9_plan_97 C hf ko
noncomputable def f_X9_plan_96 (M : mm_M) (v0 : Option Nat) (v2 : Int32) (v3 : Option Nat) (v5 : Int32) (s0 : Int32) : Option ((mm_M × Int32 × Int32) ⊕ (Int32 × mm_M)) :=
  f_X9_plan_97 M v0 v2 v3 v5 s0 0
set_option maxRecDepth 20000 in
theorem w_X9_plan_96 {g : mm_c} (C : mm_ok g cX9_plan "LessonCards" (some .int) "plan" 8 5 121 0 0) {M : mm_M} {v0 : Option Nat} {v2 : Int32} {v3 : Option Nat} {v5 : Int32} {s0 : Int32} {res : (mm_M × Int32 × Int32) ⊕ (Int32 × mm_M)} (hf : f_X9_plan_96 M v0 v2 v3 v5 s0 = some res) (ko : (mm_o (h_X9_plan_28 g v0 v2 v3) (fun z => mm_q g 0 0 (some (mm_i z.1)) z.2)) res) : mm_X g 0 0 M 96 [(0, mm_r v0), (2, mm_i v2), (3, mm_r v3), (5, mm_i v5)] [mm_i s0] := by
  unfold f_X9_plan_96 at hf
  refine xr_iconst 97 C (v := 0) dX9_plan_96 (by decide) rfl ?_
  exact w_X9_plan_97 C hf ko
noncomputable def f_X9_plan_69 (M : mm_M) (v0 : Option Nat) (v2 : Int32) (v3 : Option Nat) (v4 : Int32) (v5 : Int32) (v6 : Option Nat) (v7 : Option Nat) : Option ((mm_M × Int32 × Int32) ⊕ (Int32 × mm_M)) :=
  (mm_rc M v7 6).bind fun u73 =>
  (f_X5_become M v7 v6).bind fun M73 =>
  (mm_fI M73 v3 7 3).bind fun x82 =>
  (mm_rc M73 v0 10).bind fun u86 =>
  mm_b2 (f_X9_isAskedOn M73 v0 v7 x82 v2) fun x86 M86 =>
  if x86 = 0 then f_X9_plan_96 M86 v0 v2 v3 v5 v4 else f_X9_plan_92 M86 v0 v2 v3 v5 v4
set_option maxRecDepth 20000 in
theorem w_X9_plan_69 {g : mm_c} (C : mm_ok g cX9_plan "LessonCards" (some .int) "plan" 8 5 121 0 0) {M : mm_M} {v0 : Option Nat} {v2 : Int32} {v3 : Option Nat} {v4 : Int32} {v5 : Int32} {v6 : Option Nat} {v7 : Option Nat} {res : (mm_M × Int32 × Int32) ⊕ (Int32 × mm_M)} (hf : f_X9_plan_69 M v0 v2 v3 v4 v5 v6 v7 = some res) (ko : (mm_o (h_X9_plan_28 g v0 v2 v3) (fun z => mm_q g 0 0 (some (mm_i z.1)) z.2)) res) : mm_X g 0 0 M 69 [(0, mm_r v0), (2, mm_i v2), (3, mm_r v3), (4, mm_i v4), (5, mm_i v5), (6, mm_r v6), (7, mm_r v7)] [] := by
  unfold f_X9_plan_69 at hf
  refine xr_aload 71 6 C dX9_plan_69 rfl rfl ?_
  refine xr_aload 73 5 C dX9_plan_71 rfl rfl ?_
  obtain ⟨u73, g73, hf⟩ := mm_bd_e hf
  obtain ⟨M73, h73, hf⟩ := mm_bd_e hf
  refine xr_callV 76 C [mm_r v6] cm_X9_235 (fun l G cy => c_X5_become l G cy h73) g73 rfl rfl ⟨⟨Nat.le_of_ble_eq_true rfl, Nat.le_of_ble_eq_true rfl⟩, (Nat.le_of_ble_eq_true rfl), (Nat.le_of_ble_eq_true rfl)⟩ (Nat.le_of_ble_eq_true rfl) dX9_plan_73 rfl ?_
  refine xr_iload 78 3 C dX9_plan_76 rfl rfl ?_
  refine xr_aload_n 79 0 C dX9_plan_78 rfl rfl rfl ?_
  refine xr_aload 81 6 C dX9_plan_79 rfl rfl ?_
  refine xr_aload_n 82 2 C dX9_plan_81 rfl rfl rfl ?_
  obtain ⟨x82, h82, hf⟩ := mm_bd_e hf
  refine xr_getI 85 C cf_X9_108 rfl h82 dX9_plan_82 rfl ?_
  refine xr_iload_n 86 1 C dX9_plan_85 rfl rfl rfl ?_
  obtain ⟨u86, g86, hf⟩ := mm_bd_e hf
  obtain ⟨x86, M86, h86, hf⟩ := mm_b2_e hf
  refine xr_callV 89 C [mm_r v7, mm_i x82, mm_i v2] cm_X9_238 (fun l G cy => c_X9_isAskedOn l G cy h86) g86 rfl rfl ⟨⟨Nat.le_of_ble_eq_true rfl, Nat.le_of_ble_eq_true rfl⟩, (Nat.le_of_ble_eq_true rfl), (Nat.le_of_ble_eq_true rfl)⟩ (Nat.le_of_ble_eq_true rfl) dX9_plan_86 rfl ?_
  refine xr_if_eq 96 92 C dX9_plan_89 (by decide) rfl (fun hc => ?_) (fun hc => ?_)
  · replace hf := (if_pos hc).symm.trans hf
    refine xr_sub [0, 1, 2, 4] (lv2 := [(0, mm_r v0), (2, mm_i v2), (3, mm_r v3), (5, mm_i v5)]) rfl ?_
    exact w_X9_plan_96 C hf ko
  · replace hf := (if_neg hc).symm.trans hf
    refine xr_sub [0, 1, 2, 4] (lv2 := [(0, mm_r v0), (2, mm_i v2), (3, mm_r v3), (5, mm_i v5)]) rfl ?_
    exact w_X9_plan_92 C hf ko
noncomputable def f_X9_plan_64 (M : mm_M) (v0 : Option Nat) (v2 : Int32) (v3 : Option Nat) (v4 : Int32) (v5 : Int32) (v6 : Option Nat) (v7 : Option Nat) : Option ((mm_M × Int32 × Int32) ⊕ (Int32 × mm_M)) :=
  if v7 = none then f_X9_plan_100 M v0 v2 v3 v4 v5 else f_X9_plan_69 M v0 v2 v3 v4 v5 v6 v7
set_option maxRecDepth 20000 in
theorem w_X9_plan_64 {g : mm_c} (C : mm_ok g cX9_plan "LessonCards" (some .int) "plan" 8 5 121 0 0) {M : mm_M} {v0 : Option Nat} {v2 : Int32} {v3 : Option Nat} {v4 : Int32} {v5 : Int32} {v6 : Option Nat} {v7 : Option Nat} {res : (mm_M × Int32 × Int32) ⊕ (Int32 × mm_M)} (hf : f_X9_plan_64 M v0 v2 v3 v4 v5 v6 v7 = some res) (ko : (mm_o (h_X9_plan_28 g v0 v2 v3) (fun z => mm_q g 0 0 (some (mm_i z.1)) z.2)) res) : mm_X g 0 0 M 64 [(0, mm_r v0), (2, mm_i v2), (3, mm_r v3), (4, mm_i v4), (5, mm_i v5), (6, mm_r v6), (7, mm_r v7)] [] := by
  unfold f_X9_plan_64 at hf
  refine xr_aload 66 6 C dX9_plan_64 rfl rfl ?_
  refine xr_ifnull 100 69 C dX9_plan_66 (by decide) rfl (fun hc => ?_) (fun hc => ?_)
  · replace hf := (if_pos hc).symm.trans hf
    refine xr_sub [0, 1, 2, 3, 4] (lv2 := [(0, mm_r v0), (2, mm_i v2), (3, mm_r v3), (4, mm_i v4), (5, mm_i v5)]) rfl ?_
    exact w_X9_plan_100 C hf ko
  · replace hf := (if_neg hc).symm.trans hf
    exact w_X9_plan_69 C hf ko
noncomputable def f_X9_plan_40 (M : mm_M) (v0 : Option Nat) (v2 : Int32) (v3 : Option Nat) (v4 : Int32) (v5 : Int32) : Option ((mm_M × Int32 × Int32) ⊕ (Int32 × mm_M)) :=
  (mm_rc M v3 7).bind fun u43 =>
  (f_X6_handAt M v3 v5).bind fun x43 =>
  (mm_fR M v0 10 3).bind fun x49 =>
  (mm_rc M x49 7).bind fun u54 =>
  (f_X6_handAt M x49 v5).bind fun x54 =>
  if x43 = none then f_X9_plan_100 M v0 v2 v3 v4 v5 else f_X9_plan_64 M v0 v2 v3 v4 v5 x43 x54
set_option maxRecDepth 20000 in
theorem w_X9_plan_40 {g : mm_c} (C : mm_ok g cX9_plan "LessonCards" (some .int) "plan" 8 5 121 0 0) {M : mm_M} {v0 : Option Nat} {v2 : Int32} {v3 : Option Nat} {v4 : Int32} {v5 : Int32} {res : (mm_M × Int32 × Int32) ⊕ (Int32 × mm_M)} (hf : f_X9_plan_40 M v0 v2 v3 v4 v5 = some res) (ko : (mm_o (h_X9_plan_28 g v0 v2 v3) (fun z => mm_q g 0 0 (some (mm_i z.1)) z.2)) res) : mm_X g 0 0 M 40 [(0, mm_r v0), (2, mm_i v2), (3, mm_r v3), (4, mm_i v4), (5, mm_i v5)] [] := by
  unfold f_X9_plan_40 at hf
  refine xr_aload_n 41 2 C dX9_plan_40 rfl rfl rfl ?_
  refine xr_iload 43 4 C dX9_plan_41 rfl rfl ?_
  obtain ⟨u43, g43, hf⟩ := mm_bd_e hf
  obtain ⟨x43, h43, hf⟩ := mm_bd_e hf
  refine xr_callV 46 C [mm_i v5] cm_X9_219 (fun l G cy => c_X6_handAt l G cy h43) g43 rfl rfl ⟨⟨Nat.le_of_ble_eq_true rfl, Nat.le_of_ble_eq_true rfl⟩, (Nat.le_of_ble_eq_true rfl), (Nat.le_of_ble_eq_true rfl)⟩ (Nat.le_of_ble_eq_true rfl) dX9_plan_43 rfl ?_
  refine xr_astore 48 C dX9_plan_46 (by decide) rfl [(6, mm_r x43), (0, mm_r v0), (2, mm_i v2), (3, mm_r v3), (4, mm_i v4), (5, mm_i v5)] rfl ?_
  refine xr_aload_n 49 1 C dX9_plan_48 rfl rfl rfl ?_
  obtain ⟨x49, h49, hf⟩ := mm_bd_e hf
  refine xr_getR 52 C cf_X9_30 rfl h49 dX9_plan_49 rfl ?_
  refine xr_iload 54 5 C dX9_plan_52 rfl rfl ?_
  obtain ⟨u54, g54, hf⟩ := mm_bd_e hf
  obtain ⟨x54, h54, hf⟩ := mm_bd_e hf
  refine xr_callV 57 C [mm_i v5] cm_X9_219 (fun l G cy => c_X6_handAt l G cy h54) g54 rfl rfl ⟨⟨Nat.le_of_ble_eq_true rfl, Nat.le_of_ble_eq_true rfl⟩, (Nat.le_of_ble_eq_true rfl), (Nat.le_of_ble_eq_true rfl)⟩ (Nat.le_of_ble_eq_true rfl) dX9_plan_54 rfl ?_
  refine xr_astore 59 C dX9_plan_57 (by decide) rfl [(7, mm_r x54), (6, mm_r x43), (0, mm_r v0), (2, mm_i v2), (3, mm_r v3), (4, mm_i v4), (5, mm_i v5)] rfl ?_
  refine xr_aload 61 1 C dX9_plan_59 rfl rfl ?_
  refine xr_ifnull 100 64 C dX9_plan_61 (by decide) rfl (fun hc => ?_) (fun hc => ?_)
  · replace hf := (if_pos hc).symm.trans hf
    refine xr_sub [2, 3, 4, 5, 6] (lv2 := [(0, mm_r v0), (2, mm_i v2), (3, mm_r v3), (4, mm_i v4), (5, mm_i v5)]) rfl ?_
    exact w_X9_plan_100 C hf ko
  · replace hf := (if_neg hc).symm.trans hf
    refine xr_sub [2, 3, 4, 5, 6, 1, 0] (lv2 := [(0, mm_r v0), (2, mm_i v2), (3, mm_r v3), (4, mm_i v4), (5, mm_i v5), (6, mm_r x43), (7, mm_r x54)]) rfl ?_
    exact w_X9_plan_64 C hf ko
noncomputable def f_X9_plan_106 (M : mm_M) (v4 : Int32) : Option (Int32 × mm_M) :=
  some (v4, M)
set_option maxRecDepth 20000 in
theorem w_X9_plan_106 {g : mm_c} (C : mm_ok g cX9_plan "LessonCards" (some .int) "plan" 8 5 121 0 0) {M : mm_M} {v4 : Int32} {res : Int32 × mm_M} (hf : f_X9_plan_106 M v4 = some res) (ko : (fun z => mm_q g 0 0 (some (mm_i z.1)) z.2) res) : mm_X g 0 0 M 106 [(4, mm_i v4)] [] := by
  unfold f_X9_plan_106 at hf
  refine xr_iload 108 0 C dX9_plan_106 rfl rfl ?_
  obtain rfl := Option.some.inj hf
  exact xr_iret C ko ⟨(Nat.le_of_ble_eq_true rfl), (Nat.le_of_ble_eq_true rfl)⟩ dX9_plan_108
noncomputable def f_X9_plan_28 (M : mm_M) (v0 : Option Nat) (v2 : Int32) (v3 : Option Nat) (v4 : Int32) (v5 : Int32) : Option ((mm_M × Int32 × Int32) ⊕ (Int32 × mm_M)) :=
  (mm_fR M v0 10 1).bind fun x31 =>
  (mm_rc M x31 3).bind fun u34 =>
  (f_X2_size M x31).bind fun x34 =>
  if x34 ≤ v5 then mm_mp (f_X9_plan_106 M v4) else f_X9_plan_40 M v0 v2 v3 v4 v5
set_option maxRecDepth 20000 in
theorem w_X9_plan_28 {g : mm_c} (C : mm_ok g cX9_plan "LessonCards" (some .int) "plan" 8 5 121 0 0) {M : mm_M} {v0 : Option Nat} {v2 : Int32} {v3 : Option Nat} {v4 : Int32} {v5 : Int32} {res : (mm_M × Int32 × Int32) ⊕ (Int32 × mm_M)} (hf : f_X9_plan_28 M v0 v2 v3 v4 v5 = some res) (ko : (mm_o (h_X9_plan_28 g v0 v2 v3) (fun z => mm_q g 0 0 (some (mm_i z.1)) z.2)) res) : mm_X g 0 0 M 28 [(0, mm_r v0), (2, mm_i v2), (3, mm_r v3), (4, mm_i v4), (5, mm_i v5)] [] := by
  unfold f_X9_plan_28 at hf
  refine xr_iload 30 4 C dX9_plan_28 rfl rfl ?_
  refine xr_aload_n 31 0 C dX9_plan_30 rfl rfl rfl ?_
  obtain ⟨x31, h31, hf⟩ := mm_bd_e hf
  refine xr_getR 34 C cf_X9_19 rfl h31 dX9_plan_31 rfl ?_
  obtain ⟨u34, g34, hf⟩ := mm_bd_e hf
  obtain ⟨x34, h34, hf⟩ := mm_bd_e hf
  refine xr_callV 37 C [] cm_X9_69 (fun l G cy => c_X2_size l G cy h34) g34 rfl rfl ⟨⟨Nat.le_of_ble_eq_true rfl, Nat.le_of_ble_eq_true rfl⟩, (Nat.le_of_ble_eq_true rfl), (Nat.le_of_ble_eq_true rfl)⟩ (Nat.le_of_ble_eq_true rfl) dX9_plan_34 rfl ?_
  refine xr_icmp_ge 106 40 C dX9_plan_37 (by decide) rfl (fun hc => ?_) (fun hc => ?_)
  · replace hf := (if_pos hc).symm.trans hf
    refine xr_sub [3] (lv2 := [(4, mm_i v4)]) rfl ?_
    obtain ⟨z, hf2, rfl⟩ := mm_mp_e hf
    clear hf
    have hf := hf2
    clear hf2
    exact w_X9_plan_106 C hf ko
  · replace hf := (if_neg hc).symm.trans hf
    exact w_X9_plan_40 C hf ko
noncomputable def f_X9_plan_28w (M : mm_M) (v0 : Option Nat) (v2 : Int32) (v3 : Option Nat) (v4 : Int32) (v5 : Int32) : Option (Int32 × mm_M) := mm_w (fun x => f_X9_plan_28 x.1 v0 v2 v3 x.2.1 x.2.2) (M, v4, v5)
theorem l_X9_plan_28 {g : mm_c} (C : mm_ok g cX9_plan "LessonCards" (some .int) "plan" 8 5 121 0 0) {M : mm_M} {v0 : Option Nat} {v2 : Int32} {v3 : Option Nat} {v4 : Int32} {v5 : Int32} {res : Int32 × mm_M} (hf : f_X9_plan_28w M v0 v2 v3 v4 v5 = some res) (ko : (fun z => mm_q g 0 0 (some (mm_i z.1)) z.2) res) : mm_X g 0 0 M 28 [(0, mm_r v0), (2, mm_i v2), (3, mm_r v3), (4, mm_i v4), (5, mm_i v5)] [] :=
  mm_w_W (body := fun x => f_X9_plan_28 x.1 v0 v2 v3 x.2.1 x.2.2) (Wh := h_X9_plan_28 g v0 v2 v3) (ok := (fun z => mm_q g 0 0 (some (mm_i z.1)) z.2)) (x := (M, v4, v5)) (fun x r hb ho => w_X9_plan_28 C hb ho) hf ko
noncomputable def f_X9_plan_22 (M : mm_M) (v0 : Option Nat) (v2 : Int32) (v3 : Option Nat) : Option (Int32 × mm_M) :=
  f_X9_plan_28w M v0 v2 v3 0 0
set_option maxRecDepth 20000 in
theorem w_X9_plan_22 {g : mm_c} (C : mm_ok g cX9_plan "LessonCards" (some .int) "plan" 8 5 121 0 0) {M : mm_M} {v0 : Option Nat} {v2 : Int32} {v3 : Option Nat} {res : Int32 × mm_M} (hf : f_X9_plan_22 M v0 v2 v3 = some res) (ko : (fun z => mm_q g 0 0 (some (mm_i z.1)) z.2) res) : mm_X g 0 0 M 22 [(0, mm_r v0), (2, mm_i v2), (3, mm_r v3)] [] := by
  unfold f_X9_plan_22 at hf
  refine xr_iconst 23 C (v := 0) dX9_plan_22 (by decide) rfl ?_
  refine xr_istore 25 C dX9_plan_23 (by decide) rfl [(4, mm_i 0), (0, mm_r v0), (2, mm_i v2), (3, mm_r v3)] rfl ?_
  refine xr_iconst 26 C (v := 0) dX9_plan_25 (by decide) rfl ?_
  refine xr_istore 28 C dX9_plan_26 (by decide) rfl [(5, mm_i 0), (4, mm_i 0), (0, mm_r v0), (2, mm_i v2), (3, mm_r v3)] rfl ?_
  refine xr_sub [2, 3, 4, 1, 0] (lv2 := [(0, mm_r v0), (2, mm_i v2), (3, mm_r v3), (4, mm_i 0), (5, mm_i 0)]) rfl ?_
  exact l_X9_plan_28 C hf ko
noncomputable def f_X9_plan_14 (M : mm_M) (v0 : Option Nat) (v2 : Int32) (v3 : Option Nat) : Option (Int32 × mm_M) :=
  if v2 < 60 then f_X9_plan_22 M v0 v2 v3 else f_X9_plan_20 M
set_option maxRecDepth 20000 in
theorem w_X9_plan_14 {g : mm_c} (C : mm_ok g cX9_plan "LessonCards" (some .int) "plan" 8 5 121 0 0) {M : mm_M} {v0 : Option Nat} {v2 : Int32} {v3 : Option Nat} {res : Int32 × mm_M} (hf : f_X9_plan_14 M v0 v2 v3 = some res) (ko : (fun z => mm_q g 0 0 (some (mm_i z.1)) z.2) res) : mm_X g 0 0 M 14 [(0, mm_r v0), (2, mm_i v2), (3, mm_r v3)] [] := by
  unfold f_X9_plan_14 at hf
  refine xr_iload_n 15 1 C dX9_plan_14 rfl rfl rfl ?_
  refine xr_bipush 17 C (v := 60) dX9_plan_15 (by decide) rfl ?_
  refine xr_icmp_lt 22 20 C dX9_plan_17 (by decide) rfl (fun hc => ?_) (fun hc => ?_)
  · replace hf := (if_pos hc).symm.trans hf
    exact w_X9_plan_22 C hf ko
  · replace hf := (if_neg hc).symm.trans hf
    refine xr_sub [] (lv2 := []) rfl ?_
    exact w_X9_plan_20 C hf ko
noncomputable def f_X9_plan_10 (M : mm_M) (v0 : Option Nat) (v2 : Int32) (v3 : Option Nat) : Option (Int32 × mm_M) :=
  if v2 < 0 then f_X9_plan_20 M else f_X9_plan_14 M v0 v2 v3
set_option maxRecDepth 20000 in
theorem w_X9_plan_10 {g : mm_c} (C : mm_ok g cX9_plan "LessonCards" (some .int) "plan" 8 5 121 0 0) {M : mm_M} {v0 : Option Nat} {v2 : Int32} {v3 : Option Nat} {res : Int32 × mm_M} (hf : f_X9_plan_10 M v0 v2 v3 = some res) (ko : (fun z => mm_q g 0 0 (some (mm_i z.1)) z.2) res) : mm_X g 0 0 M 10 [(0, mm_r v0), (2, mm_i v2), (3, mm_r v3)] [] := by
  unfold f_X9_plan_10 at hf
  refine xr_iload_n 11 1 C dX9_plan_10 rfl rfl rfl ?_
  refine xr_if_lt 20 14 C dX9_plan_11 (by decide) rfl (fun hc => ?_) (fun hc => ?_)
  · replace hf := (if_pos hc).symm.trans hf
    refine xr_sub [] (lv2 := []) rfl ?_
    exact w_X9_plan_20 C hf ko
  · replace hf := (if_neg hc).symm.trans hf
    exact w_X9_plan_14 C hf ko
noncomputable def f_X9_plan_0 (M : mm_M) (v0 : Option Nat) (v1 : Int32) (v2 : Int32) : Option (Int32 × mm_M) :=
  (mm_rc M v0 10).bind fun u2 =>
  (f_X9_learnerAt M v0 v1).bind fun x2 =>
  if x2 = none then f_X9_plan_20 M else f_X9_plan_10 M v0 v2 x2
set_option maxRecDepth 20000 in
theorem w_X9_plan_0 {g : mm_c} (C : mm_ok g cX9_plan "LessonCards" (some .int) "plan" 8 5 121 0 0) {M : mm_M} {v0 : Option Nat} {v1 : Int32} {v2 : Int32} {res : Int32 × mm_M} (hf : f_X9_plan_0 M v0 v1 v2 = some res) (ko : (fun z => mm_q g 0 0 (some (mm_i z.1)) z.2) res) : mm_X g 0 0 M 0 [(0, mm_r v0), (1, mm_i v1), (2, mm_i v2)] [] := by
  unfold f_X9_plan_0 at hf
  refine xr_aload_n 1 0 C dX9_plan_0 rfl rfl rfl ?_
  refine xr_iload_n 2 1 C dX9_plan_1 rfl rfl rfl ?_
  obtain ⟨u2, g2, hf⟩ := mm_bd_e hf
  obtain ⟨x2, h2, hf⟩ := mm_bd_e hf
  refine xr_callV 5 C [mm_i v1] cm_X9_104 (fun l G cy => c_X9_learnerAt l G cy h2) g2 rfl rfl ⟨⟨Nat.le_of_ble_eq_true rfl, Nat.le_of_ble_eq_true rfl⟩, (Nat.le_of_ble_eq_true rfl), (Nat.le_of_ble_eq_true rfl)⟩ (Nat.le_of_ble_eq_true rfl) dX9_plan_2 rfl ?_
  refine xr_astore_n 6 C dX9_plan_5 rfl (by decide) rfl [(3, mm_r x2), (0, mm_r v0), (1, mm_i v1), (2, mm_i v2)] rfl ?_
  refine xr_aload_n 7 0 C dX9_plan_6 rfl rfl rfl ?_
  refine xr_ifnull 20 10 C dX9_plan_7 (by decide) rfl (fun hc => ?_) (fun hc => ?_)
  · replace hf := (if_pos hc).symm.trans hf
    refine xr_sub [] (lv2 := []) rfl ?_
    exact w_X9_plan_20 C hf ko
  · replace hf := (if_neg hc).symm.trans hf
    refine xr_sub [1, 3, 0] (lv2 := [(0, mm_r v0), (2, mm_i v2), (3, mm_r x2)]) rfl ?_
    exact w_X9_plan_10 C hf ko
noncomputable def f_X9_plan (M : mm_M) (v0 : Option Nat) (v1 : Int32) (v2 : Int32) : Option (Int32 × mm_M) := f_X9_plan_0 M v0 v1 v2
theorem c_X9_plan (l : Launch) (G : va_G) (cy : Nat → ClassId) {M : mm_M} {v0 : Option Nat} {v1 : Int32} {v2 : Int32} {r : Int32} {M1 : mm_M} (hf : f_X9_plan M v0 v1 v2 = some (r, M1)) : mm_Met l yX9_plan cX9_plan 8 (some .int) 5 121 0 0 G cy [mm_r v0, mm_i v1, mm_i v2] M (some (mm_i r)) M1 :=
  mm_enter (by decide) (Nat.le_of_ble_eq_true rfl) (fun p e R s m args below meth c Q C hq => xr_sub [0, 1, 2] (lv2 := [(0, mm_r v0), (1, mm_i v1), (2, mm_i v2)]) rfl (w_X9_plan_0 C hf hq))
noncomputable def f_X9_even_20 (M : mm_M) : Option (Int32 × mm_M) :=
  some ((-1), M)
set_option maxRecDepth 20000 in
theorem w_X9_even_20 {g : mm_c} (C : mm_ok g cX9_even "LessonCards" (some .int) "even" 4 6 131 0 0) {M : mm_M} {res : Int32 × mm_M} (hf : f_X9_even_20 M = some res) (ko : (fun z => mm_q g 0 0 (some (mm_i z.1)) z.2) res) : mm_X g 0 0 M 20 [] [] := by
  unfold f_X9_even_20 at hf
  refine xr_iconst 21 C (v := (-1)) dX9_even_20 (by decide) rfl ?_
  obtain rfl := Option.some.inj hf
  exact xr_iret C ko ⟨(Nat.le_of_ble_eq_true rfl), (Nat.le_of_ble_eq_true rfl)⟩ dX9_even_21
noncomputable def f_X9_even_22 (M : mm_M) (v0 : Option Nat) (v2 : Int32) (v3 : Option Nat) : Option (Int32 × mm_M) :=
  (mm_fR M v0 10 5).bind fun x23 =>
  (mm_fR M v0 10 0).bind fun x28 =>
  (mm_rc M x23 5).bind fun u31 =>
  (f_X4_gather M x23 v3 x28).bind fun M31 =>
  (mm_fR M31 v0 10 5).bind fun x35 =>
  (mm_rc M31 x35 5).bind fun u39 =>
  mm_b2 (f_X4_leastGreatest M31 x35 v2) fun x39 M39 =>
  some (x39, M39)
set_option maxRecDepth 20000 in
theorem w_X9_even_22 {g : mm_c} (C : mm_ok g cX9_even "LessonCards" (some .int) "even" 4 6 131 0 0) {M : mm_M} {v0 : Option Nat} {v2 : Int32} {v3 : Option Nat} {res : Int32 × mm_M} (hf : f_X9_even_22 M v0 v2 v3 = some res) (ko : (fun z => mm_q g 0 0 (some (mm_i z.1)) z.2) res) : mm_X g 0 0 M 22 [(0, mm_r v0), (2, mm_i v2), (3, mm_r v3)] [] := by
  unfold f_X9_even_22 at hf
  refine xr_aload_n 23 0 C dX9_even_22 rfl rfl rfl ?_
  obtain ⟨x23, h23, hf⟩ := mm_bd_e hf
  refine xr_getR 26 C cf_X9_44 rfl h23 dX9_even_23 rfl ?_
  refine xr_aload_n 27 2 C dX9_even_26 rfl rfl rfl ?_
  refine xr_aload_n 28 0 C dX9_even_27 rfl rfl rfl ?_
  obtain ⟨x28, h28, hf⟩ := mm_bd_e hf
  refine xr_getR 31 C cf_X9_12 rfl h28 dX9_even_28 rfl ?_
  obtain ⟨u31, g31, hf⟩ := mm_bd_e hf
  obtain ⟨M31, h31, hf⟩ := mm_bd_e hf
  refine xr_callV 34 C [mm_r v3, mm_r x28] cm_X9_242 (fun l G cy => c_X4_gather l G cy h31) g31 rfl rfl ⟨⟨Nat.le_of_ble_eq_true rfl, Nat.le_of_ble_eq_true rfl⟩, (Nat.le_of_ble_eq_true rfl), (Nat.le_of_ble_eq_true rfl)⟩ (Nat.le_of_ble_eq_true rfl) dX9_even_31 rfl ?_
  refine xr_aload_n 35 0 C dX9_even_34 rfl rfl rfl ?_
  obtain ⟨x35, h35, hf⟩ := mm_bd_e hf
  refine xr_getR 38 C cf_X9_44 rfl h35 dX9_even_35 rfl ?_
  refine xr_iload_n 39 1 C dX9_even_38 rfl rfl rfl ?_
  obtain ⟨u39, g39, hf⟩ := mm_bd_e hf
  obtain ⟨x39, M39, h39, hf⟩ := mm_b2_e hf
  refine xr_callV 42 C [mm_i v2] cm_X9_246 (fun l G cy => c_X4_leastGreatest l G cy h39) g39 rfl rfl ⟨⟨Nat.le_of_ble_eq_true rfl, Nat.le_of_ble_eq_true rfl⟩, (Nat.le_of_ble_eq_true rfl), (Nat.le_of_ble_eq_true rfl)⟩ (Nat.le_of_ble_eq_true rfl) dX9_even_39 rfl ?_
  obtain rfl := Option.some.inj hf
  exact xr_iret C ko ⟨(Nat.le_of_ble_eq_true rfl), (Nat.le_of_ble_eq_true rfl)⟩ dX9_even_42
noncomputable def f_X9_even_14 (M : mm_M) (v0 : Option Nat) (v2 : Int32) (v3 : Option Nat) : Option (Int32 × mm_M) :=
  if v2 ≤ 20 then f_X9_even_22 M v0 v2 v3 else f_X9_even_20 M
set_option maxRecDepth 20000 in
theorem w_X9_even_14 {g : mm_c} (C : mm_ok g cX9_even "LessonCards" (some .int) "even" 4 6 131 0 0) {M : mm_M} {v0 : Option Nat} {v2 : Int32} {v3 : Option Nat} {res : Int32 × mm_M} (hf : f_X9_even_14 M v0 v2 v3 = some res) (ko : (fun z => mm_q g 0 0 (some (mm_i z.1)) z.2) res) : mm_X g 0 0 M 14 [(0, mm_r v0), (2, mm_i v2), (3, mm_r v3)] [] := by
  unfold f_X9_even_14 at hf
  refine xr_iload_n 15 1 C dX9_even_14 rfl rfl rfl ?_
  refine xr_bipush 17 C (v := 20) dX9_even_15 (by decide) rfl ?_
  refine xr_icmp_le 22 20 C dX9_even_17 (by decide) rfl (fun hc => ?_) (fun hc => ?_)
  · replace hf := (if_pos hc).symm.trans hf
    exact w_X9_even_22 C hf ko
  · replace hf := (if_neg hc).symm.trans hf
    refine xr_sub [] (lv2 := []) rfl ?_
    exact w_X9_even_20 C hf ko
noncomputable def f_X9_even_10 (M : mm_M) (v0 : Option Nat) (v2 : Int32) (v3 : Option Nat) : Option (Int32 × mm_M) :=
  if v2 < 0 then f_X9_even_20 M else f_X9_even_14 M v0 v2 v3
set_option maxRecDepth 20000 in
theorem w_X9_even_10 {g : mm_c} (C : mm_ok g cX9_even "LessonCards" (some .int) "even" 4 6 131 0 0) {M : mm_M} {v0 : Option Nat} {v2 : Int32} {v3 : Option Nat} {res : Int32 × mm_M} (hf : f_X9_even_10 M v0 v2 v3 = some res) (ko : (fun z => mm_q g 0 0 (some (mm_i z.1)) z.2) res) : mm_X g 0 0 M 10 [(0, mm_r v0), (2, mm_i v2), (3, mm_r v3)] [] := by
  unfold f_X9_even_10 at hf
  refine xr_iload_n 11 1 C dX9_even_10 rfl rfl rfl ?_
  refine xr_if_lt 20 14 C dX9_even_11 (by decide) rfl (fun hc => ?_) (fun hc => ?_)
  · replace hf := (if_pos hc).symm.trans hf
    refine xr_sub [] (lv2 := []) rfl ?_
    exact w_X9_even_20 C hf ko
  · replace hf := (if_neg hc).symm.trans hf
    exact w_X9_even_14 C hf ko
noncomputable def f_X9_even_0 (M : mm_M) (v0 : Option Nat) (v1 : Int32) (v2 : Int32) : Option (Int32 × mm_M) :=
  (mm_rc M v0 10).bind fun u2 =>
  (f_X9_learnerAt M v0 v1).bind fun x2 =>
  if x2 = none then f_X9_even_20 M else f_X9_even_10 M v0 v2 x2
set_option maxRecDepth 20000 in
theorem w_X9_even_0 {g : mm_c} (C : mm_ok g cX9_even "LessonCards" (some .int) "even" 4 6 131 0 0) {M : mm_M} {v0 : Option Nat} {v1 : Int32} {v2 : Int32} {res : Int32 × mm_M} (hf : f_X9_even_0 M v0 v1 v2 = some res) (ko : (fun z => mm_q g 0 0 (some (mm_i z.1)) z.2) res) : mm_X g 0 0 M 0 [(0, mm_r v0), (1, mm_i v1), (2, mm_i v2)] [] := by
  unfold f_X9_even_0 at hf
  refine xr_aload_n 1 0 C dX9_even_0 rfl rfl rfl ?_
  refine xr_iload_n 2 1 C dX9_even_1 rfl rfl rfl ?_
  obtain ⟨u2, g2, hf⟩ := mm_bd_e hf
  obtain ⟨x2, h2, hf⟩ := mm_bd_e hf
  refine xr_callV 5 C [mm_i v1] cm_X9_104 (fun l G cy => c_X9_learnerAt l G cy h2) g2 rfl rfl ⟨⟨Nat.le_of_ble_eq_true rfl, Nat.le_of_ble_eq_true rfl⟩, (Nat.le_of_ble_eq_true rfl), (Nat.le_of_ble_eq_true rfl)⟩ (Nat.le_of_ble_eq_true rfl) dX9_even_2 rfl ?_
  refine xr_astore_n 6 C dX9_even_5 rfl (by decide) rfl [(3, mm_r x2), (0, mm_r v0), (1, mm_i v1), (2, mm_i v2)] rfl ?_
  refine xr_aload_n 7 0 C dX9_even_6 rfl rfl rfl ?_
  refine xr_ifnull 20 10 C dX9_even_7 (by decide) rfl (fun hc => ?_) (fun hc => ?_)
  · replace hf := (if_pos hc).symm.trans hf
    refine xr_sub [] (lv2 := []) rfl ?_
    exact w_X9_even_20 C hf ko
  · replace hf := (if_neg hc).symm.trans hf
    refine xr_sub [1, 3, 0] (lv2 := [(0, mm_r v0), (2, mm_i v2), (3, mm_r x2)]) rfl ?_
    exact w_X9_even_10 C hf ko
noncomputable def f_X9_even (M : mm_M) (v0 : Option Nat) (v1 : Int32) (v2 : Int32) : Option (Int32 × mm_M) := f_X9_even_0 M v0 v1 v2
theorem c_X9_even (l : Launch) (G : va_G) (cy : Nat → ClassId) {M : mm_M} {v0 : Option Nat} {v1 : Int32} {v2 : Int32} {r : Int32} {M1 : mm_M} (hf : f_X9_even M v0 v1 v2 = some (r, M1)) : mm_Met l yX9_even cX9_even 4 (some .int) 6 131 0 0 G cy [mm_r v0, mm_i v1, mm_i v2] M (some (mm_i r)) M1 :=
  mm_enter (by decide) (Nat.le_of_ble_eq_true rfl) (fun p e R s m args below meth c Q C hq => xr_sub [0, 1, 2] (lv2 := [(0, mm_r v0), (1, mm_i v1), (2, mm_i v2)]) rfl (w_X9_even_0 C hf hq))
noncomputable def f_X9_load_0 (M : mm_M) (v0 : Option Nat) (v1 : Int32) : Option (Int32) :=
  (mm_fR M v0 10 5).bind fun x1 =>
  (mm_rc M x1 5).bind fun u5 =>
  (f_X4_loadOn M x1 v1).bind fun x5 =>
  some x5
set_option maxRecDepth 20000 in
theorem w_X9_load_0 {g : mm_c} (C : mm_ok g cX9_load "LessonCards" (some .int) "load" 2 1 21 0 0) {M : mm_M} {v0 : Option Nat} {v1 : Int32} {res : Int32} (hf : f_X9_load_0 M v0 v1 = some res) (ko : (fun z => mm_q g 0 0 (some (mm_i z)) M) res) : mm_X g 0 0 M 0 [(0, mm_r v0), (1, mm_i v1)] [] := by
  unfold f_X9_load_0 at hf
  refine xr_aload_n 1 0 C dX9_load_0 rfl rfl rfl ?_
  obtain ⟨x1, h1, hf⟩ := mm_bd_e hf
  refine xr_getR 4 C cf_X9_44 rfl h1 dX9_load_1 rfl ?_
  refine xr_iload_n 5 1 C dX9_load_4 rfl rfl rfl ?_
  obtain ⟨u5, g5, hf⟩ := mm_bd_e hf
  obtain ⟨x5, h5, hf⟩ := mm_bd_e hf
  refine xr_callV 8 C [mm_i v1] cm_X9_249 (fun l G cy => c_X4_loadOn l G cy h5) g5 rfl rfl ⟨⟨Nat.le_of_ble_eq_true rfl, Nat.le_of_ble_eq_true rfl⟩, (Nat.le_of_ble_eq_true rfl), (Nat.le_of_ble_eq_true rfl)⟩ (Nat.le_of_ble_eq_true rfl) dX9_load_5 rfl ?_
  obtain rfl := Option.some.inj hf
  exact xr_iret C ko ⟨(Nat.le_of_ble_eq_true rfl), (Nat.le_of_ble_eq_true rfl)⟩ dX9_load_8
noncomputable def f_X9_load (M : mm_M) (v0 : Option Nat) (v1 : Int32) : Option (Int32) := f_X9_load_0 M v0 v1
theorem c_X9_load (l : Launch) (G : va_G) (cy : Nat → ClassId) {M : mm_M} {v0 : Option Nat} {v1 : Int32} {r : Int32} (hf : f_X9_load M v0 v1 = some r) : mm_Met l yX9_load cX9_load 2 (some .int) 1 21 0 0 G cy [mm_r v0, mm_i v1] M (some (mm_i r)) M :=
  mm_enter (by decide) (Nat.le_of_ble_eq_true rfl) (fun p e R s m args below meth c Q C hq => xr_sub [0, 1] (lv2 := [(0, mm_r v0), (1, mm_i v1)]) rfl (w_X9_load_0 C hf hq))
noncomputable def f_X9_put_28 (M : mm_M) (s0 : Int32) : Option (Int32) :=
  some s0
set_option maxRecDepth 20000 in
theorem w_X9_put_28 {g : mm_c} (C : mm_ok g cX9_put "LessonCards" (some .int) "put" 3 5 108 0 0) {M : mm_M} {s0 : Int32} {res : Int32} (hf : f_X9_put_28 M s0 = some res) (ko : (fun z => mm_q g 0 0 (some (mm_i z)) M) res) : mm_X g 0 0 M 28 [] [mm_i s0] := by
  unfold f_X9_put_28 at hf
  obtain rfl := Option.some.inj hf
  exact xr_iret C ko ⟨(Nat.le_of_ble_eq_true rfl), (Nat.le_of_ble_eq_true rfl)⟩ dX9_put_28
noncomputable def f_X9_put_12 (M : mm_M) : Option (Int32) :=
  f_X9_put_28 M (-1)
set_option maxRecDepth 20000 in
theorem w_X9_put_12 {g : mm_c} (C : mm_ok g cX9_put "LessonCards" (some .int) "put" 3 5 108 0 0) {M : mm_M} {res : Int32} (hf : f_X9_put_12 M = some res) (ko : (fun z => mm_q g 0 0 (some (mm_i z)) M) res) : mm_X g 0 0 M 12 [] [] := by
  unfold f_X9_put_12 at hf
  refine xr_iconst 13 C (v := (-1)) dX9_put_12 (by decide) rfl ?_
  refine xr_goto 28 C dX9_put_13 (by decide) ?_
  exact w_X9_put_28 C hf ko
noncomputable def f_X9_put_16 (M : mm_M) (v0 : Option Nat) (v1 : Int32) (v2 : Int32) : Option (Int32) :=
  (mm_fR M v0 10 5).bind fun x17 =>
  (f_X9_placeOf M v1 v2).bind fun x22 =>
  (mm_rc M x17 5).bind fun u25 =>
  (f_X4_dayOf M x17 x22).bind fun x25 =>
  f_X9_put_28 M x25
set_option maxRecDepth 20000 in
theorem w_X9_put_16 {g : mm_c} (C : mm_ok g cX9_put "LessonCards" (some .int) "put" 3 5 108 0 0) {M : mm_M} {v0 : Option Nat} {v1 : Int32} {v2 : Int32} {res : Int32} (hf : f_X9_put_16 M v0 v1 v2 = some res) (ko : (fun z => mm_q g 0 0 (some (mm_i z)) M) res) : mm_X g 0 0 M 16 [(0, mm_r v0), (1, mm_i v1), (2, mm_i v2)] [] := by
  unfold f_X9_put_16 at hf
  refine xr_aload_n 17 0 C dX9_put_16 rfl rfl rfl ?_
  obtain ⟨x17, h17, hf⟩ := mm_bd_e hf
  refine xr_getR 20 C cf_X9_44 rfl h17 dX9_put_17 rfl ?_
  refine xr_iload_n 21 1 C dX9_put_20 rfl rfl rfl ?_
  refine xr_iload_n 22 2 C dX9_put_21 rfl rfl rfl ?_
  obtain ⟨x22, h22, hf⟩ := mm_bd_e hf
  refine xr_callS 25 C [mm_i v1, mm_i v2] cm_X9_170 (fun l G cy => c_X9_placeOf l G cy h22) rfl rfl ⟨⟨Nat.le_of_ble_eq_true rfl, Nat.le_of_ble_eq_true rfl⟩, (Nat.le_of_ble_eq_true rfl), (Nat.le_of_ble_eq_true rfl)⟩ (Nat.le_of_ble_eq_true rfl) dX9_put_22 rfl ?_
  obtain ⟨u25, g25, hf⟩ := mm_bd_e hf
  obtain ⟨x25, h25, hf⟩ := mm_bd_e hf
  refine xr_callV 28 C [mm_i x22] cm_X9_252 (fun l G cy => c_X4_dayOf l G cy h25) g25 rfl rfl ⟨⟨Nat.le_of_ble_eq_true rfl, Nat.le_of_ble_eq_true rfl⟩, (Nat.le_of_ble_eq_true rfl), (Nat.le_of_ble_eq_true rfl)⟩ (Nat.le_of_ble_eq_true rfl) dX9_put_25 rfl ?_
  refine xr_sub [] (lv2 := []) rfl ?_
  exact w_X9_put_28 C hf ko
noncomputable def f_X9_put_0 (M : mm_M) (v0 : Option Nat) (v1 : Int32) (v2 : Int32) : Option (Int32) :=
  (mm_fR M v0 10 3).bind fun x1 =>
  (mm_rc M x1 7).bind fun u6 =>
  (f_X6_memoryOf M x1 v1 v2).bind fun x6 =>
  if x6 = none then f_X9_put_12 M else f_X9_put_16 M v0 v1 v2
set_option maxRecDepth 20000 in
theorem w_X9_put_0 {g : mm_c} (C : mm_ok g cX9_put "LessonCards" (some .int) "put" 3 5 108 0 0) {M : mm_M} {v0 : Option Nat} {v1 : Int32} {v2 : Int32} {res : Int32} (hf : f_X9_put_0 M v0 v1 v2 = some res) (ko : (fun z => mm_q g 0 0 (some (mm_i z)) M) res) : mm_X g 0 0 M 0 [(0, mm_r v0), (1, mm_i v1), (2, mm_i v2)] [] := by
  unfold f_X9_put_0 at hf
  refine xr_aload_n 1 0 C dX9_put_0 rfl rfl rfl ?_
  obtain ⟨x1, h1, hf⟩ := mm_bd_e hf
  refine xr_getR 4 C cf_X9_30 rfl h1 dX9_put_1 rfl ?_
  refine xr_iload_n 5 1 C dX9_put_4 rfl rfl rfl ?_
  refine xr_iload_n 6 2 C dX9_put_5 rfl rfl rfl ?_
  obtain ⟨u6, g6, hf⟩ := mm_bd_e hf
  obtain ⟨x6, h6, hf⟩ := mm_bd_e hf
  refine xr_callV 9 C [mm_i v1, mm_i v2] cm_X9_229 (fun l G cy => c_X6_memoryOf l G cy h6) g6 rfl rfl ⟨⟨Nat.le_of_ble_eq_true rfl, Nat.le_of_ble_eq_true rfl⟩, (Nat.le_of_ble_eq_true rfl), (Nat.le_of_ble_eq_true rfl)⟩ (Nat.le_of_ble_eq_true rfl) dX9_put_6 rfl ?_
  refine xr_ifnonnull 16 12 C dX9_put_9 (by decide) rfl (fun hc => ?_) (fun hc => ?_)
  · replace hf := (if_neg hc).symm.trans hf
    exact w_X9_put_16 C hf ko
  · replace hf := (if_pos hc).symm.trans hf
    refine xr_sub [] (lv2 := []) rfl ?_
    exact w_X9_put_12 C hf ko
noncomputable def f_X9_put (M : mm_M) (v0 : Option Nat) (v1 : Int32) (v2 : Int32) : Option (Int32) := f_X9_put_0 M v0 v1 v2
theorem c_X9_put (l : Launch) (G : va_G) (cy : Nat → ClassId) {M : mm_M} {v0 : Option Nat} {v1 : Int32} {v2 : Int32} {r : Int32} (hf : f_X9_put M v0 v1 v2 = some r) : mm_Met l yX9_put cX9_put 3 (some .int) 5 108 0 0 G cy [mm_r v0, mm_i v1, mm_i v2] M (some (mm_i r)) M :=
  mm_enter (by decide) (Nat.le_of_ble_eq_true rfl) (fun p e R s m args below meth c Q C hq => xr_sub [0, 1, 2] (lv2 := [(0, mm_r v0), (1, mm_i v1), (2, mm_i v2)]) rfl (w_X9_put_0 C hf hq))
noncomputable def f_X9_test_11 (M : mm_M) : Option (Int32 × mm_M) :=
  some ((-1), M)
set_option maxRecDepth 20000 in
theorem w_X9_test_11 {g : mm_c} (C : mm_ok g cX9_test "LessonCards" (some .int) "test" 4 3 76 0 0) {M : mm_M} {res : Int32 × mm_M} (hf : f_X9_test_11 M = some res) (ko : (fun z => mm_q g 0 0 (some (mm_i z.1)) z.2) res) : mm_X g 0 0 M 11 [] [] := by
  unfold f_X9_test_11 at hf
  refine xr_iconst 12 C (v := (-1)) dX9_test_11 (by decide) rfl ?_
  obtain rfl := Option.some.inj hf
  exact xr_iret C ko ⟨(Nat.le_of_ble_eq_true rfl), (Nat.le_of_ble_eq_true rfl)⟩ dX9_test_12
noncomputable def f_X9_test_37 (M : mm_M) : Option (Int32 × mm_M) :=
  some ((-1), M)
set_option maxRecDepth 20000 in
theorem w_X9_test_37 {g : mm_c} (C : mm_ok g cX9_test "LessonCards" (some .int) "test" 4 3 76 0 0) {M : mm_M} {res : Int32 × mm_M} (hf : f_X9_test_37 M = some res) (ko : (fun z => mm_q g 0 0 (some (mm_i z.1)) z.2) res) : mm_X g 0 0 M 37 [] [] := by
  unfold f_X9_test_37 at hf
  refine xr_iconst 38 C (v := (-1)) dX9_test_37 (by decide) rfl ?_
  obtain rfl := Option.some.inj hf
  exact xr_iret C ko ⟨(Nat.le_of_ble_eq_true rfl), (Nat.le_of_ble_eq_true rfl)⟩ dX9_test_38
noncomputable def f_X9_test_39 (M : mm_M) (v0 : Option Nat) (v1 : Int32) (v2 : Int32) (v3 : Int32) : Option (Int32 × mm_M) :=
  (mm_fR M v0 10 6).bind fun x40 =>
  (mm_rc M x40 8).bind fun u46 =>
  (f_X7_begin M x40 v1 v2 v3).bind fun M46 =>
  (mm_fR M46 v0 10 6).bind fun x50 =>
  (mm_rc M46 x50 8).bind fun u53 =>
  (f_X7_bestQuestion M46 x50).bind fun x53 =>
  some (x53, M46)
set_option maxRecDepth 20000 in
theorem w_X9_test_39 {g : mm_c} (C : mm_ok g cX9_test "LessonCards" (some .int) "test" 4 3 76 0 0) {M : mm_M} {v0 : Option Nat} {v1 : Int32} {v2 : Int32} {v3 : Int32} {res : Int32 × mm_M} (hf : f_X9_test_39 M v0 v1 v2 v3 = some res) (ko : (fun z => mm_q g 0 0 (some (mm_i z.1)) z.2) res) : mm_X g 0 0 M 39 [(0, mm_r v0), (1, mm_i v1), (2, mm_i v2), (3, mm_i v3)] [] := by
  unfold f_X9_test_39 at hf
  refine xr_aload_n 40 0 C dX9_test_39 rfl rfl rfl ?_
  obtain ⟨x40, h40, hf⟩ := mm_bd_e hf
  refine xr_getR 43 C cf_X9_51 rfl h40 dX9_test_40 rfl ?_
  refine xr_iload_n 44 1 C dX9_test_43 rfl rfl rfl ?_
  refine xr_iload_n 45 2 C dX9_test_44 rfl rfl rfl ?_
  refine xr_iload_n 46 3 C dX9_test_45 rfl rfl rfl ?_
  obtain ⟨u46, g46, hf⟩ := mm_bd_e hf
  obtain ⟨M46, h46, hf⟩ := mm_bd_e hf
  refine xr_callV 49 C [mm_i v1, mm_i v2, mm_i v3] cm_X9_255 (fun l G cy => c_X7_begin l G cy h46) g46 rfl rfl ⟨⟨Nat.le_of_ble_eq_true rfl, Nat.le_of_ble_eq_true rfl⟩, (Nat.le_of_ble_eq_true rfl), (Nat.le_of_ble_eq_true rfl)⟩ (Nat.le_of_ble_eq_true rfl) dX9_test_46 rfl ?_
  refine xr_aload_n 50 0 C dX9_test_49 rfl rfl rfl ?_
  obtain ⟨x50, h50, hf⟩ := mm_bd_e hf
  refine xr_getR 53 C cf_X9_51 rfl h50 dX9_test_50 rfl ?_
  obtain ⟨u53, g53, hf⟩ := mm_bd_e hf
  obtain ⟨x53, h53, hf⟩ := mm_bd_e hf
  refine xr_callV 56 C [] cm_X9_259 (fun l G cy => c_X7_bestQuestion l G cy h53) g53 rfl rfl ⟨⟨Nat.le_of_ble_eq_true rfl, Nat.le_of_ble_eq_true rfl⟩, (Nat.le_of_ble_eq_true rfl), (Nat.le_of_ble_eq_true rfl)⟩ (Nat.le_of_ble_eq_true rfl) dX9_test_53 rfl ?_
  obtain rfl := Option.some.inj hf
  exact xr_iret C ko ⟨(Nat.le_of_ble_eq_true rfl), (Nat.le_of_ble_eq_true rfl)⟩ dX9_test_56
noncomputable def f_X9_test_30 (M : mm_M) (v0 : Option Nat) (v1 : Int32) (v2 : Int32) (v3 : Int32) : Option (Int32 × mm_M) :=
  if v3 ≤ 499 then f_X9_test_39 M v0 v1 v2 v3 else f_X9_test_37 M
set_option maxRecDepth 20000 in
theorem w_X9_test_30 {g : mm_c} (C : mm_ok g cX9_test "LessonCards" (some .int) "test" 4 3 76 0 0) {M : mm_M} {v0 : Option Nat} {v1 : Int32} {v2 : Int32} {v3 : Int32} {res : Int32 × mm_M} (hf : f_X9_test_30 M v0 v1 v2 v3 = some res) (ko : (fun z => mm_q g 0 0 (some (mm_i z.1)) z.2) res) : mm_X g 0 0 M 30 [(0, mm_r v0), (1, mm_i v1), (2, mm_i v2), (3, mm_i v3)] [] := by
  unfold f_X9_test_30 at hf
  refine xr_iload_n 31 3 C dX9_test_30 rfl rfl rfl ?_
  refine xr_sipush 34 C (v := 499) dX9_test_31 (by decide) rfl ?_
  refine xr_icmp_le 39 37 C dX9_test_34 (by decide) rfl (fun hc => ?_) (fun hc => ?_)
  · replace hf := (if_pos hc).symm.trans hf
    exact w_X9_test_39 C hf ko
  · replace hf := (if_neg hc).symm.trans hf
    refine xr_sub [] (lv2 := []) rfl ?_
    exact w_X9_test_37 C hf ko
noncomputable def f_X9_test_25 (M : mm_M) (v0 : Option Nat) (v1 : Int32) (v2 : Int32) (v3 : Int32) : Option (Int32 × mm_M) :=
  if v3 < 1 then f_X9_test_37 M else f_X9_test_30 M v0 v1 v2 v3
set_option maxRecDepth 20000 in
theorem w_X9_test_25 {g : mm_c} (C : mm_ok g cX9_test "LessonCards" (some .int) "test" 4 3 76 0 0) {M : mm_M} {v0 : Option Nat} {v1 : Int32} {v2 : Int32} {v3 : Int32} {res : Int32 × mm_M} (hf : f_X9_test_25 M v0 v1 v2 v3 = some res) (ko : (fun z => mm_q g 0 0 (some (mm_i z.1)) z.2) res) : mm_X g 0 0 M 25 [(0, mm_r v0), (1, mm_i v1), (2, mm_i v2), (3, mm_i v3)] [] := by
  unfold f_X9_test_25 at hf
  refine xr_iload_n 26 3 C dX9_test_25 rfl rfl rfl ?_
  refine xr_iconst 27 C (v := 1) dX9_test_26 (by decide) rfl ?_
  refine xr_icmp_lt 37 30 C dX9_test_27 (by decide) rfl (fun hc => ?_) (fun hc => ?_)
  · replace hf := (if_pos hc).symm.trans hf
    refine xr_sub [] (lv2 := []) rfl ?_
    exact w_X9_test_37 C hf ko
  · replace hf := (if_neg hc).symm.trans hf
    exact w_X9_test_30 C hf ko
noncomputable def f_X9_test_18 (M : mm_M) (v0 : Option Nat) (v1 : Int32) (v2 : Int32) (v3 : Int32) : Option (Int32 × mm_M) :=
  if 499 < v2 then f_X9_test_37 M else f_X9_test_25 M v0 v1 v2 v3
set_option maxRecDepth 20000 in
theorem w_X9_test_18 {g : mm_c} (C : mm_ok g cX9_test "LessonCards" (some .int) "test" 4 3 76 0 0) {M : mm_M} {v0 : Option Nat} {v1 : Int32} {v2 : Int32} {v3 : Int32} {res : Int32 × mm_M} (hf : f_X9_test_18 M v0 v1 v2 v3 = some res) (ko : (fun z => mm_q g 0 0 (some (mm_i z.1)) z.2) res) : mm_X g 0 0 M 18 [(0, mm_r v0), (1, mm_i v1), (2, mm_i v2), (3, mm_i v3)] [] := by
  unfold f_X9_test_18 at hf
  refine xr_iload_n 19 2 C dX9_test_18 rfl rfl rfl ?_
  refine xr_sipush 22 C (v := 499) dX9_test_19 (by decide) rfl ?_
  refine xr_icmp_gt 37 25 C dX9_test_22 (by decide) rfl (fun hc => ?_) (fun hc => ?_)
  · replace hf := (if_pos hc).symm.trans hf
    refine xr_sub [] (lv2 := []) rfl ?_
    exact w_X9_test_37 C hf ko
  · replace hf := (if_neg hc).symm.trans hf
    exact w_X9_test_25 C hf ko
noncomputable def f_X9_test_13 (M : mm_M) (v0 : Option Nat) (v1 : Int32) (v2 : Int32) (v3 : Int32) : Option (Int32 × mm_M) :=
  if v2 < 1 then f_X9_test_37 M else f_X9_test_18 M v0 v1 v2 v3
set_option maxRecDepth 20000 in
theorem w_X9_test_13 {g : mm_c} (C : mm_ok g cX9_test "LessonCards" (some .int) "test" 4 3 76 0 0) {M : mm_M} {v0 : Option Nat} {v1 : Int32} {v2 : Int32} {v3 : Int32} {res : Int32 × mm_M} (hf : f_X9_test_13 M v0 v1 v2 v3 = some res) (ko : (fun z => mm_q g 0 0 (some (mm_i z.1)) z.2) res) : mm_X g 0 0 M 13 [(0, mm_r v0), (1, mm_i v1), (2, mm_i v2), (3, mm_i v3)] [] := by
  unfold f_X9_test_13 at hf
  refine xr_iload_n 14 2 C dX9_test_13 rfl rfl rfl ?_
  refine xr_iconst 15 C (v := 1) dX9_test_14 (by decide) rfl ?_
  refine xr_icmp_lt 37 18 C dX9_test_15 (by decide) rfl (fun hc => ?_) (fun hc => ?_)
  · replace hf := (if_pos hc).symm.trans hf
    refine xr_sub [] (lv2 := []) rfl ?_
    exact w_X9_test_37 C hf ko
  · replace hf := (if_neg hc).symm.trans hf
    exact w_X9_test_18 C hf ko
noncomputable def f_X9_test_5 (M : mm_M) (v0 : Option Nat) (v1 : Int32) (v2 : Int32) (v3 : Int32) : Option (Int32 × mm_M) :=
  if v1 ≤ 8 then f_X9_test_13 M v0 v1 v2 v3 else f_X9_test_11 M
set_option maxRecDepth 20000 in
theorem w_X9_test_5 {g : mm_c} (C : mm_ok g cX9_test "LessonCards" (some .int) "test" 4 3 76 0 0) {M : mm_M} {v0 : Option Nat} {v1 : Int32} {v2 : Int32} {v3 : Int32} {res : Int32 × mm_M} (hf : f_X9_test_5 M v0 v1 v2 v3 = some res) (ko : (fun z => mm_q g 0 0 (some (mm_i z.1)) z.2) res) : mm_X g 0 0 M 5 [(0, mm_r v0), (1, mm_i v1), (2, mm_i v2), (3, mm_i v3)] [] := by
  unfold f_X9_test_5 at hf
  refine xr_iload_n 6 1 C dX9_test_5 rfl rfl rfl ?_
  refine xr_bipush 8 C (v := 8) dX9_test_6 (by decide) rfl ?_
  refine xr_icmp_le 13 11 C dX9_test_8 (by decide) rfl (fun hc => ?_) (fun hc => ?_)
  · replace hf := (if_pos hc).symm.trans hf
    exact w_X9_test_13 C hf ko
  · replace hf := (if_neg hc).symm.trans hf
    refine xr_sub [] (lv2 := []) rfl ?_
    exact w_X9_test_11 C hf ko
noncomputable def f_X9_test_0 (M : mm_M) (v0 : Option Nat) (v1 : Int32) (v2 : Int32) (v3 : Int32) : Option (Int32 × mm_M) :=
  if v1 < 2 then f_X9_test_11 M else f_X9_test_5 M v0 v1 v2 v3
set_option maxRecDepth 20000 in
theorem w_X9_test_0 {g : mm_c} (C : mm_ok g cX9_test "LessonCards" (some .int) "test" 4 3 76 0 0) {M : mm_M} {v0 : Option Nat} {v1 : Int32} {v2 : Int32} {v3 : Int32} {res : Int32 × mm_M} (hf : f_X9_test_0 M v0 v1 v2 v3 = some res) (ko : (fun z => mm_q g 0 0 (some (mm_i z.1)) z.2) res) : mm_X g 0 0 M 0 [(0, mm_r v0), (1, mm_i v1), (2, mm_i v2), (3, mm_i v3)] [] := by
  unfold f_X9_test_0 at hf
  refine xr_iload_n 1 1 C dX9_test_0 rfl rfl rfl ?_
  refine xr_iconst 2 C (v := 2) dX9_test_1 (by decide) rfl ?_
  refine xr_icmp_lt 11 5 C dX9_test_2 (by decide) rfl (fun hc => ?_) (fun hc => ?_)
  · replace hf := (if_pos hc).symm.trans hf
    refine xr_sub [] (lv2 := []) rfl ?_
    exact w_X9_test_11 C hf ko
  · replace hf := (if_neg hc).symm.trans hf
    exact w_X9_test_5 C hf ko
noncomputable def f_X9_test (M : mm_M) (v0 : Option Nat) (v1 : Int32) (v2 : Int32) (v3 : Int32) : Option (Int32 × mm_M) := f_X9_test_0 M v0 v1 v2 v3
theorem c_X9_test (l : Launch) (G : va_G) (cy : Nat → ClassId) {M : mm_M} {v0 : Option Nat} {v1 : Int32} {v2 : Int32} {v3 : Int32} {r : Int32} {M1 : mm_M} (hf : f_X9_test M v0 v1 v2 v3 = some (r, M1)) : mm_Met l yX9_test cX9_test 4 (some .int) 3 76 0 0 G cy [mm_r v0, mm_i v1, mm_i v2, mm_i v3] M (some (mm_i r)) M1 :=
  mm_enter (by decide) (Nat.le_of_ble_eq_true rfl) (fun p e R s m args below meth c Q C hq => xr_sub [0, 1, 2, 3] (lv2 := [(0, mm_r v0), (1, mm_i v1), (2, mm_i v2), (3, mm_i v3)]) rfl (w_X9_test_0 C hf hq))
noncomputable def f_X9_told_10 (M : mm_M) : Option (Int32 × mm_M) :=
  some ((-4), M)
set_option maxRecDepth 20000 in
theorem w_X9_told_10 {g : mm_c} (C : mm_ok g cX9_told "LessonCards" (some .int) "told" 3 3 76 0 0) {M : mm_M} {res : Int32 × mm_M} (hf : f_X9_told_10 M = some res) (ko : (fun z => mm_q g 0 0 (some (mm_i z.1)) z.2) res) : mm_X g 0 0 M 10 [] [] := by
  unfold f_X9_told_10 at hf
  refine xr_bipush 12 C (v := (-4)) dX9_told_10 (by decide) rfl ?_
  obtain rfl := Option.some.inj hf
  exact xr_iret C ko ⟨(Nat.le_of_ble_eq_true rfl), (Nat.le_of_ble_eq_true rfl)⟩ dX9_told_12
noncomputable def f_X9_told_38 (M : mm_M) : Option (Int32 × mm_M) :=
  some ((-1), M)
set_option maxRecDepth 20000 in
theorem w_X9_told_38 {g : mm_c} (C : mm_ok g cX9_told "LessonCards" (some .int) "told" 3 3 76 0 0) {M : mm_M} {res : Int32 × mm_M} (hf : f_X9_told_38 M = some res) (ko : (fun z => mm_q g 0 0 (some (mm_i z.1)) z.2) res) : mm_X g 0 0 M 38 [] [] := by
  unfold f_X9_told_38 at hf
  refine xr_iconst 39 C (v := (-1)) dX9_told_38 (by decide) rfl ?_
  obtain rfl := Option.some.inj hf
  exact xr_iret C ko ⟨(Nat.le_of_ble_eq_true rfl), (Nat.le_of_ble_eq_true rfl)⟩ dX9_told_39
noncomputable def f_X9_told_79 (M : mm_M) (s0 : Int32) : Option (Int32 × mm_M) :=
  some (s0, M)
set_option maxRecDepth 20000 in
theorem w_X9_told_79 {g : mm_c} (C : mm_ok g cX9_told "LessonCards" (some .int) "told" 3 3 76 0 0) {M : mm_M} {s0 : Int32} {res : Int32 × mm_M} (hf : f_X9_told_79 M s0 = some res) (ko : (fun z => mm_q g 0 0 (some (mm_i z.1)) z.2) res) : mm_X g 0 0 M 79 [] [mm_i s0] := by
  unfold f_X9_told_79 at hf
  obtain rfl := Option.some.inj hf
  exact xr_iret C ko ⟨(Nat.le_of_ble_eq_true rfl), (Nat.le_of_ble_eq_true rfl)⟩ dX9_told_79
noncomputable def f_X9_told_68 (M : mm_M) : Option (Int32 × mm_M) :=
  f_X9_told_79 M 0
set_option maxRecDepth 20000 in
theorem w_X9_told_68 {g : mm_c} (C : mm_ok g cX9_told "LessonCards" (some .int) "told" 3 3 76 0 0) {M : mm_M} {res : Int32 × mm_M} (hf : f_X9_told_68 M = some res) (ko : (fun z => mm_q g 0 0 (some (mm_i z.1)) z.2) res) : mm_X g 0 0 M 68 [] [] := by
  unfold f_X9_told_68 at hf
  refine xr_iconst 69 C (v := 0) dX9_told_68 (by decide) rfl ?_
  refine xr_goto 79 C dX9_told_69 (by decide) ?_
  exact w_X9_told_79 C hf ko
noncomputable def f_X9_told_72 (M : mm_M) (v0 : Option Nat) : Option (Int32 × mm_M) :=
  (mm_fR M v0 10 6).bind fun x73 =>
  (mm_rc M x73 8).bind fun u76 =>
  (f_X7_bestQuestion M x73).bind fun x76 =>
  f_X9_told_79 M x76
set_option maxRecDepth 20000 in
theorem w_X9_told_72 {g : mm_c} (C : mm_ok g cX9_told "LessonCards" (some .int) "told" 3 3 76 0 0) {M : mm_M} {v0 : Option Nat} {res : Int32 × mm_M} (hf : f_X9_told_72 M v0 = some res) (ko : (fun z => mm_q g 0 0 (some (mm_i z.1)) z.2) res) : mm_X g 0 0 M 72 [(0, mm_r v0)] [] := by
  unfold f_X9_told_72 at hf
  refine xr_aload_n 73 0 C dX9_told_72 rfl rfl rfl ?_
  obtain ⟨x73, h73, hf⟩ := mm_bd_e hf
  refine xr_getR 76 C cf_X9_51 rfl h73 dX9_told_73 rfl ?_
  obtain ⟨u76, g76, hf⟩ := mm_bd_e hf
  obtain ⟨x76, h76, hf⟩ := mm_bd_e hf
  refine xr_callV 79 C [] cm_X9_259 (fun l G cy => c_X7_bestQuestion l G cy h76) g76 rfl rfl ⟨⟨Nat.le_of_ble_eq_true rfl, Nat.le_of_ble_eq_true rfl⟩, (Nat.le_of_ble_eq_true rfl), (Nat.le_of_ble_eq_true rfl)⟩ (Nat.le_of_ble_eq_true rfl) dX9_told_76 rfl ?_
  refine xr_sub [] (lv2 := []) rfl ?_
  exact w_X9_told_79 C hf ko
noncomputable def f_X9_told_55 (M : mm_M) (v0 : Option Nat) (s0 : Option Nat) (s1 : Int32) (s2 : Int32) : Option (Int32 × mm_M) :=
  (mm_rc M s0 8).bind fun u55 =>
  (f_X7_hear M s0 s1 s2).bind fun M55 =>
  (mm_fR M55 v0 10 6).bind fun x59 =>
  (mm_fI M55 x59 8 5).bind fun x62 =>
  if x62 = 0 then f_X9_told_72 M55 v0 else f_X9_told_68 M55
set_option maxRecDepth 20000 in
theorem w_X9_told_55 {g : mm_c} (C : mm_ok g cX9_told "LessonCards" (some .int) "told" 3 3 76 0 0) {M : mm_M} {v0 : Option Nat} {s0 : Option Nat} {s1 : Int32} {s2 : Int32} {res : Int32 × mm_M} (hf : f_X9_told_55 M v0 s0 s1 s2 = some res) (ko : (fun z => mm_q g 0 0 (some (mm_i z.1)) z.2) res) : mm_X g 0 0 M 55 [(0, mm_r v0)] [mm_i s2, mm_i s1, mm_r s0] := by
  unfold f_X9_told_55 at hf
  obtain ⟨u55, g55, hf⟩ := mm_bd_e hf
  obtain ⟨M55, h55, hf⟩ := mm_bd_e hf
  refine xr_callV 58 C [mm_i s1, mm_i s2] cm_X9_268 (fun l G cy => c_X7_hear l G cy h55) g55 rfl rfl ⟨⟨Nat.le_of_ble_eq_true rfl, Nat.le_of_ble_eq_true rfl⟩, (Nat.le_of_ble_eq_true rfl), (Nat.le_of_ble_eq_true rfl)⟩ (Nat.le_of_ble_eq_true rfl) dX9_told_55 rfl ?_
  refine xr_aload_n 59 0 C dX9_told_58 rfl rfl rfl ?_
  obtain ⟨x59, h59, hf⟩ := mm_bd_e hf
  refine xr_getR 62 C cf_X9_51 rfl h59 dX9_told_59 rfl ?_
  obtain ⟨x62, h62, hf⟩ := mm_bd_e hf
  refine xr_getI 65 C cf_X9_262 rfl h62 dX9_told_62 rfl ?_
  refine xr_if_eq 72 68 C dX9_told_65 (by decide) rfl (fun hc => ?_) (fun hc => ?_)
  · replace hf := (if_pos hc).symm.trans hf
    exact w_X9_told_72 C hf ko
  · replace hf := (if_neg hc).symm.trans hf
    refine xr_sub [] (lv2 := []) rfl ?_
    exact w_X9_told_68 C hf ko
noncomputable def f_X9_told_50 (M : mm_M) (v0 : Option Nat) (s0 : Option Nat) (s1 : Int32) : Option (Int32 × mm_M) :=
  f_X9_told_55 M v0 s0 s1 1
set_option maxRecDepth 20000 in
theorem w_X9_told_50 {g : mm_c} (C : mm_ok g cX9_told "LessonCards" (some .int) "told" 3 3 76 0 0) {M : mm_M} {v0 : Option Nat} {s0 : Option Nat} {s1 : Int32} {res : Int32 × mm_M} (hf : f_X9_told_50 M v0 s0 s1 = some res) (ko : (fun z => mm_q g 0 0 (some (mm_i z.1)) z.2) res) : mm_X g 0 0 M 50 [(0, mm_r v0)] [mm_i s1, mm_r s0] := by
  unfold f_X9_told_50 at hf
  refine xr_iconst 51 C (v := 1) dX9_told_50 (by decide) rfl ?_
  refine xr_goto 55 C dX9_told_51 (by decide) ?_
  exact w_X9_told_55 C hf ko
noncomputable def f_X9_told_54 (M : mm_M) (v0 : Option Nat) (s0 : Option Nat) (s1 : Int32) : Option (Int32 × mm_M) :=
  f_X9_told_55 M v0 s0 s1 0
set_option maxRecDepth 20000 in
theorem w_X9_told_54 {g : mm_c} (C : mm_ok g cX9_told "LessonCards" (some .int) "told" 3 3 76 0 0) {M : mm_M} {v0 : Option Nat} {s0 : Option Nat} {s1 : Int32} {res : Int32 × mm_M} (hf : f_X9_told_54 M v0 s0 s1 = some res) (ko : (fun z => mm_q g 0 0 (some (mm_i z.1)) z.2) res) : mm_X g 0 0 M 54 [(0, mm_r v0)] [mm_i s1, mm_r s0] := by
  unfold f_X9_told_54 at hf
  refine xr_iconst 55 C (v := 0) dX9_told_54 (by decide) rfl ?_
  exact w_X9_told_55 C hf ko
noncomputable def f_X9_told_40 (M : mm_M) (v0 : Option Nat) (v1 : Int32) (v2 : Int32) : Option (Int32 × mm_M) :=
  (mm_fR M v0 10 6).bind fun x41 =>
  if v2 = 1 then f_X9_told_50 M v0 x41 v1 else f_X9_told_54 M v0 x41 v1
set_option maxRecDepth 20000 in
theorem w_X9_told_40 {g : mm_c} (C : mm_ok g cX9_told "LessonCards" (some .int) "told" 3 3 76 0 0) {M : mm_M} {v0 : Option Nat} {v1 : Int32} {v2 : Int32} {res : Int32 × mm_M} (hf : f_X9_told_40 M v0 v1 v2 = some res) (ko : (fun z => mm_q g 0 0 (some (mm_i z.1)) z.2) res) : mm_X g 0 0 M 40 [(0, mm_r v0), (1, mm_i v1), (2, mm_i v2)] [] := by
  unfold f_X9_told_40 at hf
  refine xr_aload_n 41 0 C dX9_told_40 rfl rfl rfl ?_
  obtain ⟨x41, h41, hf⟩ := mm_bd_e hf
  refine xr_getR 44 C cf_X9_51 rfl h41 dX9_told_41 rfl ?_
  refine xr_iload_n 45 1 C dX9_told_44 rfl rfl rfl ?_
  refine xr_iload_n 46 2 C dX9_told_45 rfl rfl rfl ?_
  refine xr_iconst 47 C (v := 1) dX9_told_46 (by decide) rfl ?_
  refine xr_icmp_ne 54 50 C dX9_told_47 (by decide) rfl (fun hc => ?_) (fun hc => ?_)
  · replace hf := (if_neg hc).symm.trans hf
    refine xr_sub [0] (lv2 := [(0, mm_r v0)]) rfl ?_
    exact w_X9_told_54 C hf ko
  · replace hf := (if_pos hc).symm.trans hf
    refine xr_sub [0] (lv2 := [(0, mm_r v0)]) rfl ?_
    exact w_X9_told_50 C hf ko
noncomputable def f_X9_told_33 (M : mm_M) (v0 : Option Nat) (v1 : Int32) (v2 : Int32) : Option (Int32 × mm_M) :=
  if v2 ≤ 1 then f_X9_told_40 M v0 v1 v2 else f_X9_told_38 M
set_option maxRecDepth 20000 in
theorem w_X9_told_33 {g : mm_c} (C : mm_ok g cX9_told "LessonCards" (some .int) "told" 3 3 76 0 0) {M : mm_M} {v0 : Option Nat} {v1 : Int32} {v2 : Int32} {res : Int32 × mm_M} (hf : f_X9_told_33 M v0 v1 v2 = some res) (ko : (fun z => mm_q g 0 0 (some (mm_i z.1)) z.2) res) : mm_X g 0 0 M 33 [(0, mm_r v0), (1, mm_i v1), (2, mm_i v2)] [] := by
  unfold f_X9_told_33 at hf
  refine xr_iload_n 34 2 C dX9_told_33 rfl rfl rfl ?_
  refine xr_iconst 35 C (v := 1) dX9_told_34 (by decide) rfl ?_
  refine xr_icmp_le 40 38 C dX9_told_35 (by decide) rfl (fun hc => ?_) (fun hc => ?_)
  · replace hf := (if_pos hc).symm.trans hf
    exact w_X9_told_40 C hf ko
  · replace hf := (if_neg hc).symm.trans hf
    refine xr_sub [] (lv2 := []) rfl ?_
    exact w_X9_told_38 C hf ko
noncomputable def f_X9_told_29 (M : mm_M) (v0 : Option Nat) (v1 : Int32) (v2 : Int32) : Option (Int32 × mm_M) :=
  if v2 < 0 then f_X9_told_38 M else f_X9_told_33 M v0 v1 v2
set_option maxRecDepth 20000 in
theorem w_X9_told_29 {g : mm_c} (C : mm_ok g cX9_told "LessonCards" (some .int) "told" 3 3 76 0 0) {M : mm_M} {v0 : Option Nat} {v1 : Int32} {v2 : Int32} {res : Int32 × mm_M} (hf : f_X9_told_29 M v0 v1 v2 = some res) (ko : (fun z => mm_q g 0 0 (some (mm_i z.1)) z.2) res) : mm_X g 0 0 M 29 [(0, mm_r v0), (1, mm_i v1), (2, mm_i v2)] [] := by
  unfold f_X9_told_29 at hf
  refine xr_iload_n 30 2 C dX9_told_29 rfl rfl rfl ?_
  refine xr_if_lt 38 33 C dX9_told_30 (by decide) rfl (fun hc => ?_) (fun hc => ?_)
  · replace hf := (if_pos hc).symm.trans hf
    refine xr_sub [] (lv2 := []) rfl ?_
    exact w_X9_told_38 C hf ko
  · replace hf := (if_neg hc).symm.trans hf
    exact w_X9_told_33 C hf ko
noncomputable def f_X9_told_18 (M : mm_M) (v0 : Option Nat) (v1 : Int32) (v2 : Int32) : Option (Int32 × mm_M) :=
  (mm_fR M v0 10 6).bind fun x20 =>
  (mm_fI M x20 8 1).bind fun x23 =>
  if x23 ≤ v1 then f_X9_told_38 M else f_X9_told_29 M v0 v1 v2
set_option maxRecDepth 20000 in
theorem w_X9_told_18 {g : mm_c} (C : mm_ok g cX9_told "LessonCards" (some .int) "told" 3 3 76 0 0) {M : mm_M} {v0 : Option Nat} {v1 : Int32} {v2 : Int32} {res : Int32 × mm_M} (hf : f_X9_told_18 M v0 v1 v2 = some res) (ko : (fun z => mm_q g 0 0 (some (mm_i z.1)) z.2) res) : mm_X g 0 0 M 18 [(0, mm_r v0), (1, mm_i v1), (2, mm_i v2)] [] := by
  unfold f_X9_told_18 at hf
  refine xr_iload_n 19 1 C dX9_told_18 rfl rfl rfl ?_
  refine xr_aload_n 20 0 C dX9_told_19 rfl rfl rfl ?_
  obtain ⟨x20, h20, hf⟩ := mm_bd_e hf
  refine xr_getR 23 C cf_X9_51 rfl h20 dX9_told_20 rfl ?_
  obtain ⟨x23, h23, hf⟩ := mm_bd_e hf
  refine xr_getI 26 C cf_X9_265 rfl h23 dX9_told_23 rfl ?_
  refine xr_icmp_ge 38 29 C dX9_told_26 (by decide) rfl (fun hc => ?_) (fun hc => ?_)
  · replace hf := (if_pos hc).symm.trans hf
    refine xr_sub [] (lv2 := []) rfl ?_
    exact w_X9_told_38 C hf ko
  · replace hf := (if_neg hc).symm.trans hf
    exact w_X9_told_29 C hf ko
noncomputable def f_X9_told_13 (M : mm_M) (v0 : Option Nat) (v1 : Int32) (v2 : Int32) : Option (Int32 × mm_M) :=
  if v1 < 1 then f_X9_told_38 M else f_X9_told_18 M v0 v1 v2
set_option maxRecDepth 20000 in
theorem w_X9_told_13 {g : mm_c} (C : mm_ok g cX9_told "LessonCards" (some .int) "told" 3 3 76 0 0) {M : mm_M} {v0 : Option Nat} {v1 : Int32} {v2 : Int32} {res : Int32 × mm_M} (hf : f_X9_told_13 M v0 v1 v2 = some res) (ko : (fun z => mm_q g 0 0 (some (mm_i z.1)) z.2) res) : mm_X g 0 0 M 13 [(0, mm_r v0), (1, mm_i v1), (2, mm_i v2)] [] := by
  unfold f_X9_told_13 at hf
  refine xr_iload_n 14 1 C dX9_told_13 rfl rfl rfl ?_
  refine xr_iconst 15 C (v := 1) dX9_told_14 (by decide) rfl ?_
  refine xr_icmp_lt 38 18 C dX9_told_15 (by decide) rfl (fun hc => ?_) (fun hc => ?_)
  · replace hf := (if_pos hc).symm.trans hf
    refine xr_sub [] (lv2 := []) rfl ?_
    exact w_X9_told_38 C hf ko
  · replace hf := (if_neg hc).symm.trans hf
    exact w_X9_told_18 C hf ko
noncomputable def f_X9_told_0 (M : mm_M) (v0 : Option Nat) (v1 : Int32) (v2 : Int32) : Option (Int32 × mm_M) :=
  (mm_fR M v0 10 6).bind fun x1 =>
  (mm_fI M x1 8 5).bind fun x4 =>
  if x4 = 0 then f_X9_told_13 M v0 v1 v2 else f_X9_told_10 M
set_option maxRecDepth 20000 in
theorem w_X9_told_0 {g : mm_c} (C : mm_ok g cX9_told "LessonCards" (some .int) "told" 3 3 76 0 0) {M : mm_M} {v0 : Option Nat} {v1 : Int32} {v2 : Int32} {res : Int32 × mm_M} (hf : f_X9_told_0 M v0 v1 v2 = some res) (ko : (fun z => mm_q g 0 0 (some (mm_i z.1)) z.2) res) : mm_X g 0 0 M 0 [(0, mm_r v0), (1, mm_i v1), (2, mm_i v2)] [] := by
  unfold f_X9_told_0 at hf
  refine xr_aload_n 1 0 C dX9_told_0 rfl rfl rfl ?_
  obtain ⟨x1, h1, hf⟩ := mm_bd_e hf
  refine xr_getR 4 C cf_X9_51 rfl h1 dX9_told_1 rfl ?_
  obtain ⟨x4, h4, hf⟩ := mm_bd_e hf
  refine xr_getI 7 C cf_X9_262 rfl h4 dX9_told_4 rfl ?_
  refine xr_if_eq 13 10 C dX9_told_7 (by decide) rfl (fun hc => ?_) (fun hc => ?_)
  · replace hf := (if_pos hc).symm.trans hf
    exact w_X9_told_13 C hf ko
  · replace hf := (if_neg hc).symm.trans hf
    refine xr_sub [] (lv2 := []) rfl ?_
    exact w_X9_told_10 C hf ko
noncomputable def f_X9_told (M : mm_M) (v0 : Option Nat) (v1 : Int32) (v2 : Int32) : Option (Int32 × mm_M) := f_X9_told_0 M v0 v1 v2
theorem c_X9_told (l : Launch) (G : va_G) (cy : Nat → ClassId) {M : mm_M} {v0 : Option Nat} {v1 : Int32} {v2 : Int32} {r : Int32} {M1 : mm_M} (hf : f_X9_told M v0 v1 v2 = some (r, M1)) : mm_Met l yX9_told cX9_told 3 (some .int) 3 76 0 0 G cy [mm_r v0, mm_i v1, mm_i v2] M (some (mm_i r)) M1 :=
  mm_enter (by decide) (Nat.le_of_ble_eq_true rfl) (fun p e R s m args below meth c Q C hq => xr_sub [0, 1, 2] (lv2 := [(0, mm_r v0), (1, mm_i v1), (2, mm_i v2)]) rfl (w_X9_told_0 C hf hq))
noncomputable def f_X9_weight_0 (M : mm_M) (v0 : Option Nat) (v1 : Int32) : Option (Int64) :=
  (mm_fR M v0 10 6).bind fun x1 =>
  (mm_rc M x1 8).bind fun u5 =>
  (f_X7_weightOf M x1 v1).bind fun x5 =>
  some x5
set_option maxRecDepth 20000 in
theorem w_X9_weight_0 {g : mm_c} (C : mm_ok g cX9_weight "LessonCards" (some .long) "weight" 2 1 21 0 0) {M : mm_M} {v0 : Option Nat} {v1 : Int32} {res : Int64} (hf : f_X9_weight_0 M v0 v1 = some res) (ko : (fun z => mm_q g 0 0 (some (mm_j z)) M) res) : mm_X g 0 0 M 0 [(0, mm_r v0), (1, mm_i v1)] [] := by
  unfold f_X9_weight_0 at hf
  refine xr_aload_n 1 0 C dX9_weight_0 rfl rfl rfl ?_
  obtain ⟨x1, h1, hf⟩ := mm_bd_e hf
  refine xr_getR 4 C cf_X9_51 rfl h1 dX9_weight_1 rfl ?_
  refine xr_iload_n 5 1 C dX9_weight_4 rfl rfl rfl ?_
  obtain ⟨u5, g5, hf⟩ := mm_bd_e hf
  obtain ⟨x5, h5, hf⟩ := mm_bd_e hf
  refine xr_callV 8 C [mm_i v1] cm_X9_272 (fun l G cy => c_X7_weightOf l G cy h5) g5 rfl rfl ⟨⟨Nat.le_of_ble_eq_true rfl, Nat.le_of_ble_eq_true rfl⟩, (Nat.le_of_ble_eq_true rfl), (Nat.le_of_ble_eq_true rfl)⟩ (Nat.le_of_ble_eq_true rfl) dX9_weight_5 rfl ?_
  obtain rfl := Option.some.inj hf
  exact xr_lret C ko ⟨(Nat.le_of_ble_eq_true rfl), (Nat.le_of_ble_eq_true rfl)⟩ dX9_weight_8
noncomputable def f_X9_weight (M : mm_M) (v0 : Option Nat) (v1 : Int32) : Option (Int64) := f_X9_weight_0 M v0 v1
theorem c_X9_weight (l : Launch) (G : va_G) (cy : Nat → ClassId) {M : mm_M} {v0 : Option Nat} {v1 : Int32} {r : Int64} (hf : f_X9_weight M v0 v1 = some r) : mm_Met l yX9_weight cX9_weight 2 (some .long) 1 21 0 0 G cy [mm_r v0, mm_i v1] M (some (mm_j r)) M :=
  mm_enter (by decide) (Nat.le_of_ble_eq_true rfl) (fun p e R s m args below meth c Q C hq => xr_sub [0, 1] (lv2 := [(0, mm_r v0), (1, mm_i v1)]) rfl (w_X9_weight_0 C hf hq))
noncomputable def f_X9_level_0 (M : mm_M) (v0 : Option Nat) : Option (Int32) :=
  (mm_fR M v0 10 6).bind fun x1 =>
  (mm_rc M x1 8).bind fun u4 =>
  (f_X7_likeliest M x1).bind fun x4 =>
  some x4
set_option maxRecDepth 20000 in
theorem w_X9_level_0 {g : mm_c} (C : mm_ok g cX9_level "LessonCards" (some .int) "level" 1 1 24 0 0) {M : mm_M} {v0 : Option Nat} {res : Int32} (hf : f_X9_level_0 M v0 = some res) (ko : (fun z => mm_q g 0 0 (some (mm_i z)) M) res) : mm_X g 0 0 M 0 [(0, mm_r v0)] [] := by
  unfold f_X9_level_0 at hf
  refine xr_aload_n 1 0 C dX9_level_0 rfl rfl rfl ?_
  obtain ⟨x1, h1, hf⟩ := mm_bd_e hf
  refine xr_getR 4 C cf_X9_51 rfl h1 dX9_level_1 rfl ?_
  obtain ⟨u4, g4, hf⟩ := mm_bd_e hf
  obtain ⟨x4, h4, hf⟩ := mm_bd_e hf
  refine xr_callV 7 C [] cm_X9_276 (fun l G cy => c_X7_likeliest l G cy h4) g4 rfl rfl ⟨⟨Nat.le_of_ble_eq_true rfl, Nat.le_of_ble_eq_true rfl⟩, (Nat.le_of_ble_eq_true rfl), (Nat.le_of_ble_eq_true rfl)⟩ (Nat.le_of_ble_eq_true rfl) dX9_level_4 rfl ?_
  obtain rfl := Option.some.inj hf
  exact xr_iret C ko ⟨(Nat.le_of_ble_eq_true rfl), (Nat.le_of_ble_eq_true rfl)⟩ dX9_level_7
noncomputable def f_X9_level (M : mm_M) (v0 : Option Nat) : Option (Int32) := f_X9_level_0 M v0
theorem c_X9_level (l : Launch) (G : va_G) (cy : Nat → ClassId) {M : mm_M} {v0 : Option Nat} {r : Int32} (hf : f_X9_level M v0 = some r) : mm_Met l yX9_level cX9_level 1 (some .int) 1 24 0 0 G cy [mm_r v0] M (some (mm_i r)) M :=
  mm_enter (by decide) (Nat.le_of_ble_eq_true rfl) (fun p e R s m args below meth c Q C hq => xr_sub [0] (lv2 := [(0, mm_r v0)]) rfl (w_X9_level_0 C hf hq))
noncomputable def f_X9_log_0 (M : mm_M) (v0 : Option Nat) : Option (Int32) :=
  (mm_fR M v0 10 4).bind fun x1 =>
  (mm_rc M x1 0).bind fun u4 =>
  (f_Jx4a65c_size_8abf5 M x1).bind fun x4 =>
  some x4
set_option maxRecDepth 20000 in
theorem w_X9_log_0 {g : mm_c} (C : mm_ok g cX9_log "LessonCards" (some .int) "log" 1 1 20 0 0) {M : mm_M} {v0 : Option Nat} {res : Int32} (hf : f_X9_log_0 M v0 = some res) (ko : (fun z => mm_q g 0 0 (some (mm_i z)) M) res) : mm_X g 0 0 M 0 [(0, mm_r v0)] [] := by
  unfold f_X9_log_0 at hf
  refine xr_aload_n 1 0 C dX9_log_0 rfl rfl rfl ?_
  obtain ⟨x1, h1, hf⟩ := mm_bd_e hf
  refine xr_getR 4 C cf_X9_37 rfl h1 dX9_log_1 rfl ?_
  obtain ⟨u4, g4, hf⟩ := mm_bd_e hf
  obtain ⟨x4, h4, hf⟩ := mm_bd_e hf
  refine xr_callV 7 C [] cm_X9_128 (fun l G cy => c_Jx4a65c_size_8abf5 l G cy h4) g4 rfl rfl ⟨⟨Nat.le_of_ble_eq_true rfl, Nat.le_of_ble_eq_true rfl⟩, (Nat.le_of_ble_eq_true rfl), (Nat.le_of_ble_eq_true rfl)⟩ (Nat.le_of_ble_eq_true rfl) dX9_log_4 rfl ?_
  obtain rfl := Option.some.inj hf
  exact xr_iret C ko ⟨(Nat.le_of_ble_eq_true rfl), (Nat.le_of_ble_eq_true rfl)⟩ dX9_log_7
noncomputable def f_X9_log (M : mm_M) (v0 : Option Nat) : Option (Int32) := f_X9_log_0 M v0
theorem c_X9_log (l : Launch) (G : va_G) (cy : Nat → ClassId) {M : mm_M} {v0 : Option Nat} {r : Int32} (hf : f_X9_log M v0 = some r) : mm_Met l yX9_log cX9_log 1 (some .int) 1 20 0 0 G cy [mm_r v0] M (some (mm_i r)) M :=
  mm_enter (by decide) (Nat.le_of_ble_eq_true rfl) (fun p e R s m args below meth c Q C hq => xr_sub [0] (lv2 := [(0, mm_r v0)]) rfl (w_X9_log_0 C hf hq))
noncomputable def f_X9_logged_15 (M : mm_M) : Option (Int32) :=
  some (-1)
set_option maxRecDepth 20000 in
theorem w_X9_logged_15 {g : mm_c} (C : mm_ok g cX9_logged "LessonCards" (some .int) "logged" 3 3 64 0 0) {M : mm_M} {res : Int32} (hf : f_X9_logged_15 M = some res) (ko : (fun z => mm_q g 0 0 (some (mm_i z)) M) res) : mm_X g 0 0 M 15 [] [] := by
  unfold f_X9_logged_15 at hf
  refine xr_iconst 16 C (v := (-1)) dX9_logged_15 (by decide) rfl ?_
  obtain rfl := Option.some.inj hf
  exact xr_iret C ko ⟨(Nat.le_of_ble_eq_true rfl), (Nat.le_of_ble_eq_true rfl)⟩ dX9_logged_16
noncomputable def f_X9_logged_17 (M : mm_M) (v0 : Option Nat) (v1 : Int32) (v2 : Int32) : Option (Int32) :=
  (mm_fR M v0 10 4).bind fun x18 =>
  (mm_rc M x18 0).bind fun u22 =>
  (f_Jx4a65c_get_915e3 M x18 v1).bind fun x22 =>
  (mm_cc M x22 4).bind fun u25 =>
  (mm_rc M x22 4).bind fun u29 =>
  (f_X3_tell M x22 v2).bind fun x29 =>
  some x29
set_option maxRecDepth 20000 in
theorem w_X9_logged_17 {g : mm_c} (C : mm_ok g cX9_logged "LessonCards" (some .int) "logged" 3 3 64 0 0) {M : mm_M} {v0 : Option Nat} {v1 : Int32} {v2 : Int32} {res : Int32} (hf : f_X9_logged_17 M v0 v1 v2 = some res) (ko : (fun z => mm_q g 0 0 (some (mm_i z)) M) res) : mm_X g 0 0 M 17 [(0, mm_r v0), (1, mm_i v1), (2, mm_i v2)] [] := by
  unfold f_X9_logged_17 at hf
  refine xr_aload_n 18 0 C dX9_logged_17 rfl rfl rfl ?_
  obtain ⟨x18, h18, hf⟩ := mm_bd_e hf
  refine xr_getR 21 C cf_X9_37 rfl h18 dX9_logged_18 rfl ?_
  refine xr_iload_n 22 1 C dX9_logged_21 rfl rfl rfl ?_
  obtain ⟨u22, g22, hf⟩ := mm_bd_e hf
  obtain ⟨x22, h22, hf⟩ := mm_bd_e hf
  refine xr_callV 25 C [mm_i v1] cm_X9_279 (fun l G cy => c_Jx4a65c_get_915e3 l G cy h22) g22 rfl rfl ⟨⟨Nat.le_of_ble_eq_true rfl, Nat.le_of_ble_eq_true rfl⟩, (Nat.le_of_ble_eq_true rfl), (Nat.le_of_ble_eq_true rfl)⟩ (Nat.le_of_ble_eq_true rfl) dX9_logged_22 rfl ?_
  obtain ⟨u25, h25, hf⟩ := mm_bd_e hf
  refine xr_cast 28 C (ci := 4) rfl (by decide) wd_572 h25 dX9_logged_25 rfl ?_
  refine xr_iload_n 29 2 C dX9_logged_28 rfl rfl rfl ?_
  obtain ⟨u29, g29, hf⟩ := mm_bd_e hf
  obtain ⟨x29, h29, hf⟩ := mm_bd_e hf
  refine xr_callV 32 C [mm_i v2] cm_X9_282 (fun l G cy => c_X3_tell l G cy h29) g29 rfl rfl ⟨⟨Nat.le_of_ble_eq_true rfl, Nat.le_of_ble_eq_true rfl⟩, (Nat.le_of_ble_eq_true rfl), (Nat.le_of_ble_eq_true rfl)⟩ (Nat.le_of_ble_eq_true rfl) dX9_logged_29 rfl ?_
  obtain rfl := Option.some.inj hf
  exact xr_iret C ko ⟨(Nat.le_of_ble_eq_true rfl), (Nat.le_of_ble_eq_true rfl)⟩ dX9_logged_32
noncomputable def f_X9_logged_4 (M : mm_M) (v0 : Option Nat) (v1 : Int32) (v2 : Int32) : Option (Int32) :=
  (mm_fR M v0 10 4).bind fun x6 =>
  (mm_rc M x6 0).bind fun u9 =>
  (f_Jx4a65c_size_8abf5 M x6).bind fun x9 =>
  if v1 < x9 then f_X9_logged_17 M v0 v1 v2 else f_X9_logged_15 M
set_option maxRecDepth 20000 in
theorem w_X9_logged_4 {g : mm_c} (C : mm_ok g cX9_logged "LessonCards" (some .int) "logged" 3 3 64 0 0) {M : mm_M} {v0 : Option Nat} {v1 : Int32} {v2 : Int32} {res : Int32} (hf : f_X9_logged_4 M v0 v1 v2 = some res) (ko : (fun z => mm_q g 0 0 (some (mm_i z)) M) res) : mm_X g 0 0 M 4 [(0, mm_r v0), (1, mm_i v1), (2, mm_i v2)] [] := by
  unfold f_X9_logged_4 at hf
  refine xr_iload_n 5 1 C dX9_logged_4 rfl rfl rfl ?_
  refine xr_aload_n 6 0 C dX9_logged_5 rfl rfl rfl ?_
  obtain ⟨x6, h6, hf⟩ := mm_bd_e hf
  refine xr_getR 9 C cf_X9_37 rfl h6 dX9_logged_6 rfl ?_
  obtain ⟨u9, g9, hf⟩ := mm_bd_e hf
  obtain ⟨x9, h9, hf⟩ := mm_bd_e hf
  refine xr_callV 12 C [] cm_X9_128 (fun l G cy => c_Jx4a65c_size_8abf5 l G cy h9) g9 rfl rfl ⟨⟨Nat.le_of_ble_eq_true rfl, Nat.le_of_ble_eq_true rfl⟩, (Nat.le_of_ble_eq_true rfl), (Nat.le_of_ble_eq_true rfl)⟩ (Nat.le_of_ble_eq_true rfl) dX9_logged_9 rfl ?_
  refine xr_icmp_lt 17 15 C dX9_logged_12 (by decide) rfl (fun hc => ?_) (fun hc => ?_)
  · replace hf := (if_pos hc).symm.trans hf
    exact w_X9_logged_17 C hf ko
  · replace hf := (if_neg hc).symm.trans hf
    refine xr_sub [] (lv2 := []) rfl ?_
    exact w_X9_logged_15 C hf ko
noncomputable def f_X9_logged_0 (M : mm_M) (v0 : Option Nat) (v1 : Int32) (v2 : Int32) : Option (Int32) :=
  if v1 < 0 then f_X9_logged_15 M else f_X9_logged_4 M v0 v1 v2
set_option maxRecDepth 20000 in
theorem w_X9_logged_0 {g : mm_c} (C : mm_ok g cX9_logged "LessonCards" (some .int) "logged" 3 3 64 0 0) {M : mm_M} {v0 : Option Nat} {v1 : Int32} {v2 : Int32} {res : Int32} (hf : f_X9_logged_0 M v0 v1 v2 = some res) (ko : (fun z => mm_q g 0 0 (some (mm_i z)) M) res) : mm_X g 0 0 M 0 [(0, mm_r v0), (1, mm_i v1), (2, mm_i v2)] [] := by
  unfold f_X9_logged_0 at hf
  refine xr_iload_n 1 1 C dX9_logged_0 rfl rfl rfl ?_
  refine xr_if_lt 15 4 C dX9_logged_1 (by decide) rfl (fun hc => ?_) (fun hc => ?_)
  · replace hf := (if_pos hc).symm.trans hf
    refine xr_sub [] (lv2 := []) rfl ?_
    exact w_X9_logged_15 C hf ko
  · replace hf := (if_neg hc).symm.trans hf
    exact w_X9_logged_4 C hf ko
noncomputable def f_X9_logged (M : mm_M) (v0 : Option Nat) (v1 : Int32) (v2 : Int32) : Option (Int32) := f_X9_logged_0 M v0 v1 v2
theorem c_X9_logged (l : Launch) (G : va_G) (cy : Nat → ClassId) {M : mm_M} {v0 : Option Nat} {v1 : Int32} {v2 : Int32} {r : Int32} (hf : f_X9_logged M v0 v1 v2 = some r) : mm_Met l yX9_logged cX9_logged 3 (some .int) 3 64 0 0 G cy [mm_r v0, mm_i v1, mm_i v2] M (some (mm_i r)) M :=
  mm_enter (by decide) (Nat.le_of_ble_eq_true rfl) (fun p e R s m args below meth c Q C hq => xr_sub [0, 1, 2] (lv2 := [(0, mm_r v0), (1, mm_i v1), (2, mm_i v2)]) rfl (w_X9_logged_0 C hf hq))
noncomputable def f_X9_retellOne_68 (M : mm_M) : Option (mm_M) :=
  some M
set_option maxRecDepth 20000 in
theorem w_X9_retellOne_68 {g : mm_c} (C : mm_ok g cX9_retellOne "LessonCards" none "retellOne" 4 4 95 0 0) {M : mm_M} {res : mm_M} (hf : f_X9_retellOne_68 M = some res) (ko : (fun z => mm_q g 0 0 none z) res) : mm_X g 0 0 M 68 [] [] := by
  unfold f_X9_retellOne_68 at hf
  obtain rfl := Option.some.inj hf
  exact xr_vret C ko ⟨(Nat.le_of_ble_eq_true rfl), (Nat.le_of_ble_eq_true rfl)⟩ dX9_retellOne_68
noncomputable def f_X9_retellOne_5 (M : mm_M) (v0 : Option Nat) (v1 : Option Nat) (v2 : Option Nat) : Option (mm_M) :=
  (mm_fI M v2 4 4).bind fun x7 =>
  (mm_fI M v2 4 3).bind fun x11 =>
  (mm_fI M v2 4 5).bind fun x15 =>
  (mm_fI M v2 4 2).bind fun x19 =>
  (mm_fR M v0 10 0).bind fun x23 =>
  (mm_rc M v1 9).bind fun u26 =>
  (f_X8_move M v1 x7 x11 x15 x19 x23).bind fun M26 =>
  f_X9_retellOne_68 M26
set_option maxRecDepth 20000 in
theorem w_X9_retellOne_5 {g : mm_c} (C : mm_ok g cX9_retellOne "LessonCards" none "retellOne" 4 4 95 0 0) {M : mm_M} {v0 : Option Nat} {v1 : Option Nat} {v2 : Option Nat} {res : mm_M} (hf : f_X9_retellOne_5 M v0 v1 v2 = some res) (ko : (fun z => mm_q g 0 0 none z) res) : mm_X g 0 0 M 5 [(0, mm_r v0), (1, mm_r v1), (2, mm_r v2)] [] := by
  unfold f_X9_retellOne_5 at hf
  refine xr_aload_n 6 1 C dX9_retellOne_5 rfl rfl rfl ?_
  refine xr_aload_n 7 2 C dX9_retellOne_6 rfl rfl rfl ?_
  obtain ⟨x7, h7, hf⟩ := mm_bd_e hf
  refine xr_getI 10 C cf_X9_319 rfl h7 dX9_retellOne_7 rfl ?_
  refine xr_aload_n 11 2 C dX9_retellOne_10 rfl rfl rfl ?_
  obtain ⟨x11, h11, hf⟩ := mm_bd_e hf
  refine xr_getI 14 C cf_X9_312 rfl h11 dX9_retellOne_11 rfl ?_
  refine xr_aload_n 15 2 C dX9_retellOne_14 rfl rfl rfl ?_
  obtain ⟨x15, h15, hf⟩ := mm_bd_e hf
  refine xr_getI 18 C cf_X9_322 rfl h15 dX9_retellOne_15 rfl ?_
  refine xr_aload_n 19 2 C dX9_retellOne_18 rfl rfl rfl ?_
  obtain ⟨x19, h19, hf⟩ := mm_bd_e hf
  refine xr_getI 22 C cf_X9_309 rfl h19 dX9_retellOne_19 rfl ?_
  refine xr_aload_n 23 0 C dX9_retellOne_22 rfl rfl rfl ?_
  obtain ⟨x23, h23, hf⟩ := mm_bd_e hf
  refine xr_getR 26 C cf_X9_12 rfl h23 dX9_retellOne_23 rfl ?_
  obtain ⟨u26, g26, hf⟩ := mm_bd_e hf
  obtain ⟨M26, h26, hf⟩ := mm_bd_e hf
  refine xr_callV 29 C [mm_i x7, mm_i x11, mm_i x15, mm_i x19, mm_r x23] cm_X9_151 (fun l G cy => c_X8_move l G cy h26) g26 rfl rfl ⟨⟨Nat.le_of_ble_eq_true rfl, Nat.le_of_ble_eq_true rfl⟩, (Nat.le_of_ble_eq_true rfl), (Nat.le_of_ble_eq_true rfl)⟩ (Nat.le_of_ble_eq_true rfl) dX9_retellOne_26 rfl ?_
  refine xr_goto 68 C dX9_retellOne_29 (by decide) ?_
  refine xr_sub [] (lv2 := []) rfl ?_
  exact w_X9_retellOne_68 C hf ko
noncomputable def f_X9_retellOne_42 (M : mm_M) (v0 : Option Nat) (v1 : Option Nat) (v2 : Option Nat) (v3 : Int32) : Option (mm_M) :=
  (mm_fI M v2 4 3).bind fun x45 =>
  (mm_fR M v0 10 7).bind fun x49 =>
  (mm_fI M v2 4 3).bind fun x53 =>
  (mm_aI M x49 12 x53).bind fun x56 =>
  (mm_fI M v2 4 2).bind fun x58 =>
  (mm_fR M v0 10 0).bind fun x62 =>
  (mm_rc M v1 9).bind fun u65 =>
  (f_X8_move M v1 v3 x45 x56 x58 x62).bind fun M65 =>
  f_X9_retellOne_68 M65
set_option maxRecDepth 20000 in
theorem w_X9_retellOne_42 {g : mm_c} (C : mm_ok g cX9_retellOne "LessonCards" none "retellOne" 4 4 95 0 0) {M : mm_M} {v0 : Option Nat} {v1 : Option Nat} {v2 : Option Nat} {v3 : Int32} {res : mm_M} (hf : f_X9_retellOne_42 M v0 v1 v2 v3 = some res) (ko : (fun z => mm_q g 0 0 none z) res) : mm_X g 0 0 M 42 [(0, mm_r v0), (1, mm_r v1), (2, mm_r v2), (3, mm_i v3)] [] := by
  unfold f_X9_retellOne_42 at hf
  refine xr_aload_n 43 1 C dX9_retellOne_42 rfl rfl rfl ?_
  refine xr_iload_n 44 3 C dX9_retellOne_43 rfl rfl rfl ?_
  refine xr_aload_n 45 2 C dX9_retellOne_44 rfl rfl rfl ?_
  obtain ⟨x45, h45, hf⟩ := mm_bd_e hf
  refine xr_getI 48 C cf_X9_312 rfl h45 dX9_retellOne_45 rfl ?_
  refine xr_aload_n 49 0 C dX9_retellOne_48 rfl rfl rfl ?_
  obtain ⟨x49, h49, hf⟩ := mm_bd_e hf
  refine xr_getR 52 C cf_X9_55 rfl h49 dX9_retellOne_49 rfl ?_
  refine xr_aload_n 53 2 C dX9_retellOne_52 rfl rfl rfl ?_
  obtain ⟨x53, h53, hf⟩ := mm_bd_e hf
  refine xr_getI 56 C cf_X9_312 rfl h53 dX9_retellOne_53 rfl ?_
  obtain ⟨x56, h56, hf⟩ := mm_bd_e hf
  refine xr_aldI 57 C h56 dX9_retellOne_56 rfl ?_
  refine xr_aload_n 58 2 C dX9_retellOne_57 rfl rfl rfl ?_
  obtain ⟨x58, h58, hf⟩ := mm_bd_e hf
  refine xr_getI 61 C cf_X9_309 rfl h58 dX9_retellOne_58 rfl ?_
  refine xr_aload_n 62 0 C dX9_retellOne_61 rfl rfl rfl ?_
  obtain ⟨x62, h62, hf⟩ := mm_bd_e hf
  refine xr_getR 65 C cf_X9_12 rfl h62 dX9_retellOne_62 rfl ?_
  obtain ⟨u65, g65, hf⟩ := mm_bd_e hf
  obtain ⟨M65, h65, hf⟩ := mm_bd_e hf
  refine xr_callV 68 C [mm_i v3, mm_i x45, mm_i x56, mm_i x58, mm_r x62] cm_X9_151 (fun l G cy => c_X8_move l G cy h65) g65 rfl rfl ⟨⟨Nat.le_of_ble_eq_true rfl, Nat.le_of_ble_eq_true rfl⟩, (Nat.le_of_ble_eq_true rfl), (Nat.le_of_ble_eq_true rfl)⟩ (Nat.le_of_ble_eq_true rfl) dX9_retellOne_65 rfl ?_
  refine xr_sub [] (lv2 := []) rfl ?_
  exact w_X9_retellOne_68 C hf ko
noncomputable def f_X9_retellOne_32 (M : mm_M) (v0 : Option Nat) (v1 : Option Nat) (v2 : Option Nat) (v3 : Int32) : Option (mm_M) :=
  (mm_fI M v2 4 3).bind fun x33 =>
  (f_X9_isAnswer M x33).bind fun x36 =>
  if x36 = 0 then f_X9_retellOne_68 M else f_X9_retellOne_42 M v0 v1 v2 v3
set_option maxRecDepth 20000 in
theorem w_X9_retellOne_32 {g : mm_c} (C : mm_ok g cX9_retellOne "LessonCards" none "retellOne" 4 4 95 0 0) {M : mm_M} {v0 : Option Nat} {v1 : Option Nat} {v2 : Option Nat} {v3 : Int32} {res : mm_M} (hf : f_X9_retellOne_32 M v0 v1 v2 v3 = some res) (ko : (fun z => mm_q g 0 0 none z) res) : mm_X g 0 0 M 32 [(0, mm_r v0), (1, mm_r v1), (2, mm_r v2), (3, mm_i v3)] [] := by
  unfold f_X9_retellOne_32 at hf
  refine xr_aload_n 33 2 C dX9_retellOne_32 rfl rfl rfl ?_
  obtain ⟨x33, h33, hf⟩ := mm_bd_e hf
  refine xr_getI 36 C cf_X9_312 rfl h33 dX9_retellOne_33 rfl ?_
  obtain ⟨x36, h36, hf⟩ := mm_bd_e hf
  refine xr_callS 39 C [mm_i x33] cm_X9_100 (fun l G cy => c_X9_isAnswer l G cy h36) rfl rfl ⟨⟨Nat.le_of_ble_eq_true rfl, Nat.le_of_ble_eq_true rfl⟩, (Nat.le_of_ble_eq_true rfl), (Nat.le_of_ble_eq_true rfl)⟩ (Nat.le_of_ble_eq_true rfl) dX9_retellOne_36 rfl ?_
  refine xr_if_eq 68 42 C dX9_retellOne_39 (by decide) rfl (fun hc => ?_) (fun hc => ?_)
  · replace hf := (if_pos hc).symm.trans hf
    refine xr_sub [] (lv2 := []) rfl ?_
    exact w_X9_retellOne_68 C hf ko
  · replace hf := (if_neg hc).symm.trans hf
    exact w_X9_retellOne_42 C hf ko
noncomputable def f_X9_retellOne_0 (M : mm_M) (v0 : Option Nat) (v1 : Option Nat) (v2 : Option Nat) (v3 : Int32) : Option (mm_M) :=
  if v3 = 3 then f_X9_retellOne_5 M v0 v1 v2 else f_X9_retellOne_32 M v0 v1 v2 v3
set_option maxRecDepth 20000 in
theorem w_X9_retellOne_0 {g : mm_c} (C : mm_ok g cX9_retellOne "LessonCards" none "retellOne" 4 4 95 0 0) {M : mm_M} {v0 : Option Nat} {v1 : Option Nat} {v2 : Option Nat} {v3 : Int32} {res : mm_M} (hf : f_X9_retellOne_0 M v0 v1 v2 v3 = some res) (ko : (fun z => mm_q g 0 0 none z) res) : mm_X g 0 0 M 0 [(0, mm_r v0), (1, mm_r v1), (2, mm_r v2), (3, mm_i v3)] [] := by
  unfold f_X9_retellOne_0 at hf
  refine xr_iload_n 1 3 C dX9_retellOne_0 rfl rfl rfl ?_
  refine xr_iconst 2 C (v := 3) dX9_retellOne_1 (by decide) rfl ?_
  refine xr_icmp_ne 32 5 C dX9_retellOne_2 (by decide) rfl (fun hc => ?_) (fun hc => ?_)
  · replace hf := (if_neg hc).symm.trans hf
    exact w_X9_retellOne_32 C hf ko
  · replace hf := (if_pos hc).symm.trans hf
    refine xr_sub [0, 1, 2] (lv2 := [(0, mm_r v0), (1, mm_r v1), (2, mm_r v2)]) rfl ?_
    exact w_X9_retellOne_5 C hf ko
noncomputable def f_X9_retellOne (M : mm_M) (v0 : Option Nat) (v1 : Option Nat) (v2 : Option Nat) (v3 : Int32) : Option (mm_M) := f_X9_retellOne_0 M v0 v1 v2 v3
theorem c_X9_retellOne (l : Launch) (G : va_G) (cy : Nat → ClassId) {M : mm_M} {v0 : Option Nat} {v1 : Option Nat} {v2 : Option Nat} {v3 : Int32} {M1 : mm_M} (hf : f_X9_retellOne M v0 v1 v2 v3 = some M1) : mm_Met l yX9_retellOne cX9_retellOne 4 none 4 95 0 0 G cy [mm_r v0, mm_r v1, mm_r v2, mm_i v3] M none M1 :=
  mm_enter (by decide) (Nat.le_of_ble_eq_true rfl) (fun p e R s m args below meth c Q C hq => xr_sub [0, 1, 2, 3] (lv2 := [(0, mm_r v0), (1, mm_r v1), (2, mm_r v2), (3, mm_i v3)]) rfl (w_X9_retellOne_0 C hf hq))
def h_X9_retell_12 (g : mm_c) (v0 : Option Nat) (v1 : Int32) (v2 : Int32) : (mm_M × Int64 × Int32) → Prop := fun x => mm_X g 0 0 x.1 12 [(0, mm_r v0), (1, mm_i v1), (2, mm_i v2), (3, mm_j x.2.1), (5, mm_i x.2.2)] []
noncomputable def f_X9_retell_123 (M : mm_M) (v0 : Option Nat) (v1 : Int32) (v2 : Int32) (v3 : Int64) (v5 : Int32) : Option ((mm_M × Int64 × Int32) ⊕ (Int64 × mm_M)) :=
  some (.inl (M, v3, (v5 + 1)))
set_option maxRecDepth 20000 in
theorem w_X9_retell_123 {g : mm_c} (C : mm_ok g cX9_retell "LessonCards" (some .long) "retell" 9 5 118 0 0) {M : mm_M} {v0 : Option Nat} {v1 : Int32} {v2 : Int32} {v3 : Int64} {v5 : Int32} {res : (mm_M × Int64 × Int32) ⊕ (Int64 × mm_M)} (hf : f_X9_retell_123 M v0 v1 v2 v3 v5 = some res) (ko : (mm_o (h_X9_retell_12 g v0 v1 v2) (fun z => mm_q g 0 0 (some (mm_j z.1)) z.2)) res) : mm_X g 0 0 M 123 [(0, mm_r v0), (1, mm_i v1), (2, mm_i v2), (3, mm_j v3), (5, mm_i v5)] [] := by
  unfold f_X9_retell_123 at hf
  refine xr_iinc 126 4 C dX9_retell_123 rfl (by decide) (v := 1) (by decide) rfl [(5, mm_i (v5 + 1)), (0, mm_r v0), (1, mm_i v1), (2, mm_i v2), (3, mm_j v3)] rfl ?_
  refine xr_goto 12 C dX9_retell_126 (by decide) ?_
  refine xr_sub [1, 2, 3, 4, 0] (lv2 := [(0, mm_r v0), (1, mm_i v1), (2, mm_i v2), (3, mm_j v3), (5, mm_i (v5 + 1))]) rfl ?_
  obtain rfl := Option.some.inj hf
  exact ko
noncomputable def f_X9_retell_114 (M : mm_M) (v0 : Option Nat) (v1 : Int32) (v2 : Int32) (v3 : Int64) (v5 : Int32) (v6 : Option Nat) (v7 : Option Nat) : Option ((mm_M × Int64 × Int32) ⊕ (Int64 × mm_M)) :=
  (mm_rc M v0 10).bind fun u120 =>
  (f_X9_retellOne M v0 v7 v6 v2).bind fun M120 =>
  f_X9_retell_123 M120 v0 v1 v2 v3 v5
set_option maxRecDepth 20000 in
theorem w_X9_retell_114 {g : mm_c} (C : mm_ok g cX9_retell "LessonCards" (some .long) "retell" 9 5 118 0 0) {M : mm_M} {v0 : Option Nat} {v1 : Int32} {v2 : Int32} {v3 : Int64} {v5 : Int32} {v6 : Option Nat} {v7 : Option Nat} {res : (mm_M × Int64 × Int32) ⊕ (Int64 × mm_M)} (hf : f_X9_retell_114 M v0 v1 v2 v3 v5 v6 v7 = some res) (ko : (mm_o (h_X9_retell_12 g v0 v1 v2) (fun z => mm_q g 0 0 (some (mm_j z.1)) z.2)) res) : mm_X g 0 0 M 114 [(0, mm_r v0), (1, mm_i v1), (2, mm_i v2), (3, mm_j v3), (5, mm_i v5), (6, mm_r v6), (7, mm_r v7)] [] := by
  unfold f_X9_retell_114 at hf
  refine xr_aload_n 115 0 C dX9_retell_114 rfl rfl rfl ?_
  refine xr_aload 117 6 C dX9_retell_115 rfl rfl ?_
  refine xr_aload 119 5 C dX9_retell_117 rfl rfl ?_
  refine xr_iload_n 120 2 C dX9_retell_119 rfl rfl rfl ?_
  obtain ⟨u120, g120, hf⟩ := mm_bd_e hf
  obtain ⟨M120, h120, hf⟩ := mm_bd_e hf
  refine xr_callV 123 C [mm_r v7, mm_r v6, mm_i v2] cm_X9_315 (fun l G cy => c_X9_retellOne l G cy h120) g120 rfl rfl ⟨⟨Nat.le_of_ble_eq_true rfl, Nat.le_of_ble_eq_true rfl⟩, (Nat.le_of_ble_eq_true rfl), (Nat.le_of_ble_eq_true rfl)⟩ (Nat.le_of_ble_eq_true rfl) dX9_retell_120 rfl ?_
  refine xr_sub [0, 1, 2, 3, 4] (lv2 := [(0, mm_r v0), (1, mm_i v1), (2, mm_i v2), (3, mm_j v3), (5, mm_i v5)]) rfl ?_
  exact w_X9_retell_123 C hf ko
noncomputable def f_X9_retell_112 (M : mm_M) (v0 : Option Nat) (v1 : Int32) (v2 : Int32) (v5 : Int32) (v6 : Option Nat) (v7 : Option Nat) (s0 : Int64) (s1 : Int64) : Option ((mm_M × Int64 × Int32) ⊕ (Int64 × mm_M)) :=
  f_X9_retell_114 M v0 v1 v2 (s0 + s1) v5 v6 v7
set_option maxRecDepth 20000 in
theorem w_X9_retell_112 {g : mm_c} (C : mm_ok g cX9_retell "LessonCards" (some .long) "retell" 9 5 118 0 0) {M : mm_M} {v0 : Option Nat} {v1 : Int32} {v2 : Int32} {v5 : Int32} {v6 : Option Nat} {v7 : Option Nat} {s0 : Int64} {s1 : Int64} {res : (mm_M × Int64 × Int32) ⊕ (Int64 × mm_M)} (hf : f_X9_retell_112 M v0 v1 v2 v5 v6 v7 s0 s1 = some res) (ko : (mm_o (h_X9_retell_12 g v0 v1 v2) (fun z => mm_q g 0 0 (some (mm_j z.1)) z.2)) res) : mm_X g 0 0 M 112 [(0, mm_r v0), (1, mm_i v1), (2, mm_i v2), (5, mm_i v5), (6, mm_r v6), (7, mm_r v7)] [mm_j s1, mm_j s0] := by
  unfold f_X9_retell_112 at hf
  refine xr_ladd 113 C dX9_retell_112 rfl ?_
  refine xr_lstore_n 114 C dX9_retell_113 rfl (by decide) rfl [(3, mm_j (s0 + s1)), (0, mm_r v0), (1, mm_i v1), (2, mm_i v2), (5, mm_i v5), (6, mm_r v6), (7, mm_r v7)] rfl ?_
  refine xr_sub [1, 2, 3, 0, 4, 5, 6] (lv2 := [(0, mm_r v0), (1, mm_i v1), (2, mm_i v2), (3, mm_j (s0 + s1)), (5, mm_i v5), (6, mm_r v6), (7, mm_r v7)]) rfl ?_
  exact w_X9_retell_114 C hf ko
noncomputable def f_X9_retell_99 (M : mm_M) (v0 : Option Nat) (v1 : Int32) (v2 : Int32) (v5 : Int32) (v6 : Option Nat) (v7 : Option Nat) (v8 : Int32) (s0 : Int64) : Option ((mm_M × Int64 × Int32) ⊕ (Int64 × mm_M)) :=
  f_X9_retell_112 M v0 v1 v2 v5 v6 v7 s0 (v8.toInt64)
set_option maxRecDepth 20000 in
theorem w_X9_retell_99 {g : mm_c} (C : mm_ok g cX9_retell "LessonCards" (some .long) "retell" 9 5 118 0 0) {M : mm_M} {v0 : Option Nat} {v1 : Int32} {v2 : Int32} {v5 : Int32} {v6 : Option Nat} {v7 : Option Nat} {v8 : Int32} {s0 : Int64} {res : (mm_M × Int64 × Int32) ⊕ (Int64 × mm_M)} (hf : f_X9_retell_99 M v0 v1 v2 v5 v6 v7 v8 s0 = some res) (ko : (mm_o (h_X9_retell_12 g v0 v1 v2) (fun z => mm_q g 0 0 (some (mm_j z.1)) z.2)) res) : mm_X g 0 0 M 99 [(0, mm_r v0), (1, mm_i v1), (2, mm_i v2), (5, mm_i v5), (6, mm_r v6), (7, mm_r v7), (8, mm_i v8)] [mm_j s0] := by
  unfold f_X9_retell_99 at hf
  refine xr_iload 101 6 C dX9_retell_99 rfl rfl ?_
  refine xr_i2l 102 C dX9_retell_101 rfl ?_
  refine xr_goto 112 C dX9_retell_102 (by decide) ?_
  refine xr_sub [0, 1, 2, 3, 4, 5] (lv2 := [(0, mm_r v0), (1, mm_i v1), (2, mm_i v2), (5, mm_i v5), (6, mm_r v6), (7, mm_r v7)]) rfl ?_
  exact w_X9_retell_112 C hf ko
noncomputable def f_X9_retell_105 (M : mm_M) (v0 : Option Nat) (v1 : Int32) (v2 : Int32) (v5 : Int32) (v6 : Option Nat) (v7 : Option Nat) (v8 : Int32) (s0 : Int64) : Option ((mm_M × Int64 × Int32) ⊕ (Int64 × mm_M)) :=
  f_X9_retell_112 M v0 v1 v2 v5 v6 v7 s0 (((1000 - v8)).toInt64)
set_option maxRecDepth 20000 in
theorem w_X9_retell_105 {g : mm_c} (C : mm_ok g cX9_retell "LessonCards" (some .long) "retell" 9 5 118 0 0) {M : mm_M} {v0 : Option Nat} {v1 : Int32} {v2 : Int32} {v5 : Int32} {v6 : Option Nat} {v7 : Option Nat} {v8 : Int32} {s0 : Int64} {res : (mm_M × Int64 × Int32) ⊕ (Int64 × mm_M)} (hf : f_X9_retell_105 M v0 v1 v2 v5 v6 v7 v8 s0 = some res) (ko : (mm_o (h_X9_retell_12 g v0 v1 v2) (fun z => mm_q g 0 0 (some (mm_j z.1)) z.2)) res) : mm_X g 0 0 M 105 [(0, mm_r v0), (1, mm_i v1), (2, mm_i v2), (5, mm_i v5), (6, mm_r v6), (7, mm_r v7), (8, mm_i v8)] [mm_j s0] := by
  unfold f_X9_retell_105 at hf
  refine xr_sipush 108 C (v := 1000) dX9_retell_105 (by decide) rfl ?_
  refine xr_iload 110 6 C dX9_retell_108 rfl rfl ?_
  refine xr_isub 111 C dX9_retell_110 rfl ?_
  refine xr_i2l 112 C dX9_retell_111 rfl ?_
  refine xr_sub [0, 1, 2, 3, 4, 5] (lv2 := [(0, mm_r v0), (1, mm_i v1), (2, mm_i v2), (5, mm_i v5), (6, mm_r v6), (7, mm_r v7)]) rfl ?_
  exact w_X9_retell_112 C hf ko
noncomputable def f_X9_retell_74 (M : mm_M) (v0 : Option Nat) (v1 : Int32) (v2 : Int32) (v3 : Int64) (v5 : Int32) (v6 : Option Nat) (v7 : Option Nat) : Option ((mm_M × Int64 × Int32) ⊕ (Int64 × mm_M)) :=
  (mm_fI M v6 4 2).bind fun x78 =>
  (mm_fR M v0 10 0).bind fun x82 =>
  (mm_rc M v7 9).bind fun u85 =>
  (f_X8_chanceOn M v7 x78 x82).bind fun x85 =>
  (mm_fI M v6 4 3).bind fun x93 =>
  if x93 = 0 then f_X9_retell_99 M v0 v1 v2 v5 v6 v7 x85 v3 else f_X9_retell_105 M v0 v1 v2 v5 v6 v7 x85 v3
set_option maxRecDepth 20000 in
theorem w_X9_retell_74 {g : mm_c} (C : mm_ok g cX9_retell "LessonCards" (some .long) "retell" 9 5 118 0 0) {M : mm_M} {v0 : Option Nat} {v1 : Int32} {v2 : Int32} {v3 : Int64} {v5 : Int32} {v6 : Option Nat} {v7 : Option Nat} {res : (mm_M × Int64 × Int32) ⊕ (Int64 × mm_M)} (hf : f_X9_retell_74 M v0 v1 v2 v3 v5 v6 v7 = some res) (ko : (mm_o (h_X9_retell_12 g v0 v1 v2) (fun z => mm_q g 0 0 (some (mm_j z.1)) z.2)) res) : mm_X g 0 0 M 74 [(0, mm_r v0), (1, mm_i v1), (2, mm_i v2), (3, mm_j v3), (5, mm_i v5), (6, mm_r v6), (7, mm_r v7)] [] := by
  unfold f_X9_retell_74 at hf
  refine xr_aload 76 6 C dX9_retell_74 rfl rfl ?_
  refine xr_aload 78 5 C dX9_retell_76 rfl rfl ?_
  obtain ⟨x78, h78, hf⟩ := mm_bd_e hf
  refine xr_getI 81 C cf_X9_309 rfl h78 dX9_retell_78 rfl ?_
  refine xr_aload_n 82 0 C dX9_retell_81 rfl rfl rfl ?_
  obtain ⟨x82, h82, hf⟩ := mm_bd_e hf
  refine xr_getR 85 C cf_X9_12 rfl h82 dX9_retell_82 rfl ?_
  obtain ⟨u85, g85, hf⟩ := mm_bd_e hf
  obtain ⟨x85, h85, hf⟩ := mm_bd_e hf
  refine xr_callV 88 C [mm_i x78, mm_r x82] cm_X9_232 (fun l G cy => c_X8_chanceOn l G cy h85) g85 rfl rfl ⟨⟨Nat.le_of_ble_eq_true rfl, Nat.le_of_ble_eq_true rfl⟩, (Nat.le_of_ble_eq_true rfl), (Nat.le_of_ble_eq_true rfl)⟩ (Nat.le_of_ble_eq_true rfl) dX9_retell_85 rfl ?_
  refine xr_istore 90 C dX9_retell_88 (by decide) rfl [(8, mm_i x85), (0, mm_r v0), (1, mm_i v1), (2, mm_i v2), (3, mm_j v3), (5, mm_i v5), (6, mm_r v6), (7, mm_r v7)] rfl ?_
  refine xr_lload_n 91 4 C dX9_retell_90 rfl rfl rfl ?_
  refine xr_aload 93 6 C dX9_retell_91 rfl rfl ?_
  obtain ⟨x93, h93, hf⟩ := mm_bd_e hf
  refine xr_getI 96 C cf_X9_312 rfl h93 dX9_retell_93 rfl ?_
  refine xr_if_ne 105 99 C dX9_retell_96 (by decide) rfl (fun hc => ?_) (fun hc => ?_)
  · replace hf := (if_neg hc).symm.trans hf
    refine xr_sub [1, 2, 3, 5, 6, 7, 0] (lv2 := [(0, mm_r v0), (1, mm_i v1), (2, mm_i v2), (5, mm_i v5), (6, mm_r v6), (7, mm_r v7), (8, mm_i x85)]) rfl ?_
    exact w_X9_retell_105 C hf ko
  · replace hf := (if_pos hc).symm.trans hf
    refine xr_sub [1, 2, 3, 5, 6, 7, 0] (lv2 := [(0, mm_r v0), (1, mm_i v1), (2, mm_i v2), (5, mm_i v5), (6, mm_r v6), (7, mm_r v7), (8, mm_i x85)]) rfl ?_
    exact w_X9_retell_99 C hf ko
noncomputable def f_X9_retell_66 (M : mm_M) (v0 : Option Nat) (v1 : Int32) (v2 : Int32) (v3 : Int64) (v5 : Int32) (v6 : Option Nat) (v7 : Option Nat) : Option ((mm_M × Int64 × Int32) ⊕ (Int64 × mm_M)) :=
  (mm_rc M v7 9).bind fun u68 =>
  (f_X8_isFresh M v7).bind fun x68 =>
  if x68 = 0 then f_X9_retell_74 M v0 v1 v2 v3 v5 v6 v7 else f_X9_retell_114 M v0 v1 v2 v3 v5 v6 v7
set_option maxRecDepth 20000 in
theorem w_X9_retell_66 {g : mm_c} (C : mm_ok g cX9_retell "LessonCards" (some .long) "retell" 9 5 118 0 0) {M : mm_M} {v0 : Option Nat} {v1 : Int32} {v2 : Int32} {v3 : Int64} {v5 : Int32} {v6 : Option Nat} {v7 : Option Nat} {res : (mm_M × Int64 × Int32) ⊕ (Int64 × mm_M)} (hf : f_X9_retell_66 M v0 v1 v2 v3 v5 v6 v7 = some res) (ko : (mm_o (h_X9_retell_12 g v0 v1 v2) (fun z => mm_q g 0 0 (some (mm_j z.1)) z.2)) res) : mm_X g 0 0 M 66 [(0, mm_r v0), (1, mm_i v1), (2, mm_i v2), (3, mm_j v3), (5, mm_i v5), (6, mm_r v6), (7, mm_r v7)] [] := by
  unfold f_X9_retell_66 at hf
  refine xr_aload 68 6 C dX9_retell_66 rfl rfl ?_
  obtain ⟨u68, g68, hf⟩ := mm_bd_e hf
  obtain ⟨x68, h68, hf⟩ := mm_bd_e hf
  refine xr_callV 71 C [] cm_X9_306 (fun l G cy => c_X8_isFresh l G cy h68) g68 rfl rfl ⟨⟨Nat.le_of_ble_eq_true rfl, Nat.le_of_ble_eq_true rfl⟩, (Nat.le_of_ble_eq_true rfl), (Nat.le_of_ble_eq_true rfl)⟩ (Nat.le_of_ble_eq_true rfl) dX9_retell_68 rfl ?_
  refine xr_if_ne 114 74 C dX9_retell_71 (by decide) rfl (fun hc => ?_) (fun hc => ?_)
  · replace hf := (if_neg hc).symm.trans hf
    exact w_X9_retell_114 C hf ko
  · replace hf := (if_pos hc).symm.trans hf
    exact w_X9_retell_74 C hf ko
noncomputable def f_X9_retell_61 (M : mm_M) (v0 : Option Nat) (v1 : Int32) (v2 : Int32) (v3 : Int64) (v5 : Int32) (v6 : Option Nat) (v7 : Option Nat) : Option ((mm_M × Int64 × Int32) ⊕ (Int64 × mm_M)) :=
  if v7 = none then f_X9_retell_123 M v0 v1 v2 v3 v5 else f_X9_retell_66 M v0 v1 v2 v3 v5 v6 v7
set_option maxRecDepth 20000 in
theorem w_X9_retell_61 {g : mm_c} (C : mm_ok g cX9_retell "LessonCards" (some .long) "retell" 9 5 118 0 0) {M : mm_M} {v0 : Option Nat} {v1 : Int32} {v2 : Int32} {v3 : Int64} {v5 : Int32} {v6 : Option Nat} {v7 : Option Nat} {res : (mm_M × Int64 × Int32) ⊕ (Int64 × mm_M)} (hf : f_X9_retell_61 M v0 v1 v2 v3 v5 v6 v7 = some res) (ko : (mm_o (h_X9_retell_12 g v0 v1 v2) (fun z => mm_q g 0 0 (some (mm_j z.1)) z.2)) res) : mm_X g 0 0 M 61 [(0, mm_r v0), (1, mm_i v1), (2, mm_i v2), (3, mm_j v3), (5, mm_i v5), (6, mm_r v6), (7, mm_r v7)] [] := by
  unfold f_X9_retell_61 at hf
  refine xr_aload 63 6 C dX9_retell_61 rfl rfl ?_
  refine xr_ifnull 123 66 C dX9_retell_63 (by decide) rfl (fun hc => ?_) (fun hc => ?_)
  · replace hf := (if_pos hc).symm.trans hf
    refine xr_sub [0, 1, 2, 3, 4] (lv2 := [(0, mm_r v0), (1, mm_i v1), (2, mm_i v2), (3, mm_j v3), (5, mm_i v5)]) rfl ?_
    exact w_X9_retell_123 C hf ko
  · replace hf := (if_neg hc).symm.trans hf
    exact w_X9_retell_66 C hf ko
noncomputable def f_X9_retell_24 (M : mm_M) (v0 : Option Nat) (v1 : Int32) (v2 : Int32) (v3 : Int64) (v5 : Int32) : Option ((mm_M × Int64 × Int32) ⊕ (Int64 × mm_M)) :=
  (mm_fR M v0 10 4).bind fun x25 =>
  (mm_rc M x25 0).bind fun u30 =>
  (f_Jx4a65c_get_915e3 M x25 v5).bind fun x30 =>
  (mm_cc M x30 4).bind fun u33 =>
  (mm_fR M v0 10 3).bind fun x39 =>
  (mm_fI M x30 4 1).bind fun x44 =>
  (mm_rc M x39 7).bind fun u47 =>
  (f_X6_memoryAt M x39 x44).bind fun x47 =>
  (mm_fI M x30 4 0).bind fun x54 =>
  if x54 = v1 then f_X9_retell_61 M v0 v1 v2 v3 v5 x30 x47 else f_X9_retell_123 M v0 v1 v2 v3 v5
set_option maxRecDepth 20000 in
theorem w_X9_retell_24 {g : mm_c} (C : mm_ok g cX9_retell "LessonCards" (some .long) "retell" 9 5 118 0 0) {M : mm_M} {v0 : Option Nat} {v1 : Int32} {v2 : Int32} {v3 : Int64} {v5 : Int32} {res : (mm_M × Int64 × Int32) ⊕ (Int64 × mm_M)} (hf : f_X9_retell_24 M v0 v1 v2 v3 v5 = some res) (ko : (mm_o (h_X9_retell_12 g v0 v1 v2) (fun z => mm_q g 0 0 (some (mm_j z.1)) z.2)) res) : mm_X g 0 0 M 24 [(0, mm_r v0), (1, mm_i v1), (2, mm_i v2), (3, mm_j v3), (5, mm_i v5)] [] := by
  unfold f_X9_retell_24 at hf
  refine xr_aload_n 25 0 C dX9_retell_24 rfl rfl rfl ?_
  obtain ⟨x25, h25, hf⟩ := mm_bd_e hf
  refine xr_getR 28 C cf_X9_37 rfl h25 dX9_retell_25 rfl ?_
  refine xr_iload 30 4 C dX9_retell_28 rfl rfl ?_
  obtain ⟨u30, g30, hf⟩ := mm_bd_e hf
  obtain ⟨x30, h30, hf⟩ := mm_bd_e hf
  refine xr_callV 33 C [mm_i v5] cm_X9_279 (fun l G cy => c_Jx4a65c_get_915e3 l G cy h30) g30 rfl rfl ⟨⟨Nat.le_of_ble_eq_true rfl, Nat.le_of_ble_eq_true rfl⟩, (Nat.le_of_ble_eq_true rfl), (Nat.le_of_ble_eq_true rfl)⟩ (Nat.le_of_ble_eq_true rfl) dX9_retell_30 rfl ?_
  obtain ⟨u33, h33, hf⟩ := mm_bd_e hf
  refine xr_cast 36 C (ci := 4) rfl (by decide) wd_572 h33 dX9_retell_33 rfl ?_
  refine xr_astore 38 C dX9_retell_36 (by decide) rfl [(6, mm_r x30), (0, mm_r v0), (1, mm_i v1), (2, mm_i v2), (3, mm_j v3), (5, mm_i v5)] rfl ?_
  refine xr_aload_n 39 1 C dX9_retell_38 rfl rfl rfl ?_
  obtain ⟨x39, h39, hf⟩ := mm_bd_e hf
  refine xr_getR 42 C cf_X9_30 rfl h39 dX9_retell_39 rfl ?_
  refine xr_aload 44 0 C dX9_retell_42 rfl rfl ?_
  obtain ⟨x44, h44, hf⟩ := mm_bd_e hf
  refine xr_getI 47 C cf_X9_187 rfl h44 dX9_retell_44 rfl ?_
  obtain ⟨u47, g47, hf⟩ := mm_bd_e hf
  obtain ⟨x47, h47, hf⟩ := mm_bd_e hf
  refine xr_callV 50 C [mm_i x44] cm_X9_129 (fun l G cy => c_X6_memoryAt l G cy h47) g47 rfl rfl ⟨⟨Nat.le_of_ble_eq_true rfl, Nat.le_of_ble_eq_true rfl⟩, (Nat.le_of_ble_eq_true rfl), (Nat.le_of_ble_eq_true rfl)⟩ (Nat.le_of_ble_eq_true rfl) dX9_retell_47 rfl ?_
  refine xr_astore 52 C dX9_retell_50 (by decide) rfl [(7, mm_r x47), (6, mm_r x30), (0, mm_r v0), (1, mm_i v1), (2, mm_i v2), (3, mm_j v3), (5, mm_i v5)] rfl ?_
  refine xr_aload 54 1 C dX9_retell_52 rfl rfl ?_
  obtain ⟨x54, h54, hf⟩ := mm_bd_e hf
  refine xr_getI 57 C cf_X9_184 rfl h54 dX9_retell_54 rfl ?_
  refine xr_iload_n 58 3 C dX9_retell_57 rfl rfl rfl ?_
  refine xr_icmp_ne 123 61 C dX9_retell_58 (by decide) rfl (fun hc => ?_) (fun hc => ?_)
  · replace hf := (if_neg hc).symm.trans hf
    refine xr_sub [2, 3, 4, 5, 6] (lv2 := [(0, mm_r v0), (1, mm_i v1), (2, mm_i v2), (3, mm_j v3), (5, mm_i v5)]) rfl ?_
    exact w_X9_retell_123 C hf ko
  · replace hf := (if_pos hc).symm.trans hf
    refine xr_sub [2, 3, 4, 5, 6, 1, 0] (lv2 := [(0, mm_r v0), (1, mm_i v1), (2, mm_i v2), (3, mm_j v3), (5, mm_i v5), (6, mm_r x30), (7, mm_r x47)]) rfl ?_
    exact w_X9_retell_61 C hf ko
noncomputable def f_X9_retell_129 (M : mm_M) (v3 : Int64) : Option (Int64 × mm_M) :=
  some (v3, M)
set_option maxRecDepth 20000 in
theorem w_X9_retell_129 {g : mm_c} (C : mm_ok g cX9_retell "LessonCards" (some .long) "retell" 9 5 118 0 0) {M : mm_M} {v3 : Int64} {res : Int64 × mm_M} (hf : f_X9_retell_129 M v3 = some res) (ko : (fun z => mm_q g 0 0 (some (mm_j z.1)) z.2) res) : mm_X g 0 0 M 129 [(3, mm_j v3)] [] := by
  unfold f_X9_retell_129 at hf
  refine xr_lload_n 130 0 C dX9_retell_129 rfl rfl rfl ?_
  obtain rfl := Option.some.inj hf
  exact xr_lret C ko ⟨(Nat.le_of_ble_eq_true rfl), (Nat.le_of_ble_eq_true rfl)⟩ dX9_retell_130
noncomputable def f_X9_retell_12 (M : mm_M) (v0 : Option Nat) (v1 : Int32) (v2 : Int32) (v3 : Int64) (v5 : Int32) : Option ((mm_M × Int64 × Int32) ⊕ (Int64 × mm_M)) :=
  (mm_fR M v0 10 4).bind fun x15 =>
  (mm_rc M x15 0).bind fun u18 =>
  (f_Jx4a65c_size_8abf5 M x15).bind fun x18 =>
  if x18 ≤ v5 then mm_mp (f_X9_retell_129 M v3) else f_X9_retell_24 M v0 v1 v2 v3 v5
set_option maxRecDepth 20000 in
theorem w_X9_retell_12 {g : mm_c} (C : mm_ok g cX9_retell "LessonCards" (some .long) "retell" 9 5 118 0 0) {M : mm_M} {v0 : Option Nat} {v1 : Int32} {v2 : Int32} {v3 : Int64} {v5 : Int32} {res : (mm_M × Int64 × Int32) ⊕ (Int64 × mm_M)} (hf : f_X9_retell_12 M v0 v1 v2 v3 v5 = some res) (ko : (mm_o (h_X9_retell_12 g v0 v1 v2) (fun z => mm_q g 0 0 (some (mm_j z.1)) z.2)) res) : mm_X g 0 0 M 12 [(0, mm_r v0), (1, mm_i v1), (2, mm_i v2), (3, mm_j v3), (5, mm_i v5)] [] := by
  unfold f_X9_retell_12 at hf
  refine xr_iload 14 4 C dX9_retell_12 rfl rfl ?_
  refine xr_aload_n 15 0 C dX9_retell_14 rfl rfl rfl ?_
  obtain ⟨x15, h15, hf⟩ := mm_bd_e hf
  refine xr_getR 18 C cf_X9_37 rfl h15 dX9_retell_15 rfl ?_
  obtain ⟨u18, g18, hf⟩ := mm_bd_e hf
  obtain ⟨x18, h18, hf⟩ := mm_bd_e hf
  refine xr_callV 21 C [] cm_X9_128 (fun l G cy => c_Jx4a65c_size_8abf5 l G cy h18) g18 rfl rfl ⟨⟨Nat.le_of_ble_eq_true rfl, Nat.le_of_ble_eq_true rfl⟩, (Nat.le_of_ble_eq_true rfl), (Nat.le_of_ble_eq_true rfl)⟩ (Nat.le_of_ble_eq_true rfl) dX9_retell_18 rfl ?_
  refine xr_icmp_ge 129 24 C dX9_retell_21 (by decide) rfl (fun hc => ?_) (fun hc => ?_)
  · replace hf := (if_pos hc).symm.trans hf
    refine xr_sub [3] (lv2 := [(3, mm_j v3)]) rfl ?_
    obtain ⟨z, hf2, rfl⟩ := mm_mp_e hf
    clear hf
    have hf := hf2
    clear hf2
    exact w_X9_retell_129 C hf ko
  · replace hf := (if_neg hc).symm.trans hf
    exact w_X9_retell_24 C hf ko
noncomputable def f_X9_retell_12w (M : mm_M) (v0 : Option Nat) (v1 : Int32) (v2 : Int32) (v3 : Int64) (v5 : Int32) : Option (Int64 × mm_M) := mm_w (fun x => f_X9_retell_12 x.1 v0 v1 v2 x.2.1 x.2.2) (M, v3, v5)
theorem l_X9_retell_12 {g : mm_c} (C : mm_ok g cX9_retell "LessonCards" (some .long) "retell" 9 5 118 0 0) {M : mm_M} {v0 : Option Nat} {v1 : Int32} {v2 : Int32} {v3 : Int64} {v5 : Int32} {res : Int64 × mm_M} (hf : f_X9_retell_12w M v0 v1 v2 v3 v5 = some res) (ko : (fun z => mm_q g 0 0 (some (mm_j z.1)) z.2) res) : mm_X g 0 0 M 12 [(0, mm_r v0), (1, mm_i v1), (2, mm_i v2), (3, mm_j v3), (5, mm_i v5)] [] :=
  mm_w_W (body := fun x => f_X9_retell_12 x.1 v0 v1 v2 x.2.1 x.2.2) (Wh := h_X9_retell_12 g v0 v1 v2) (ok := (fun z => mm_q g 0 0 (some (mm_j z.1)) z.2)) (x := (M, v3, v5)) (fun x r hb ho => w_X9_retell_12 C hb ho) hf ko
noncomputable def f_X9_retell_0 (M : mm_M) (v0 : Option Nat) (v1 : Int32) (v2 : Int32) : Option (Int64 × mm_M) :=
  (mm_fR M v0 10 3).bind fun x1 =>
  (mm_rc M x1 7).bind fun u4 =>
  (f_X6_forgetAll M x1).bind fun M4 =>
  f_X9_retell_12w M4 v0 v1 v2 0 0
set_option maxRecDepth 20000 in
theorem w_X9_retell_0 {g : mm_c} (C : mm_ok g cX9_retell "LessonCards" (some .long) "retell" 9 5 118 0 0) {M : mm_M} {v0 : Option Nat} {v1 : Int32} {v2 : Int32} {res : Int64 × mm_M} (hf : f_X9_retell_0 M v0 v1 v2 = some res) (ko : (fun z => mm_q g 0 0 (some (mm_j z.1)) z.2) res) : mm_X g 0 0 M 0 [(0, mm_r v0), (1, mm_i v1), (2, mm_i v2)] [] := by
  unfold f_X9_retell_0 at hf
  refine xr_aload_n 1 0 C dX9_retell_0 rfl rfl rfl ?_
  obtain ⟨x1, h1, hf⟩ := mm_bd_e hf
  refine xr_getR 4 C cf_X9_30 rfl h1 dX9_retell_1 rfl ?_
  obtain ⟨u4, g4, hf⟩ := mm_bd_e hf
  obtain ⟨M4, h4, hf⟩ := mm_bd_e hf
  refine xr_callV 7 C [] cm_X9_303 (fun l G cy => c_X6_forgetAll l G cy h4) g4 rfl rfl ⟨⟨Nat.le_of_ble_eq_true rfl, Nat.le_of_ble_eq_true rfl⟩, (Nat.le_of_ble_eq_true rfl), (Nat.le_of_ble_eq_true rfl)⟩ (Nat.le_of_ble_eq_true rfl) dX9_retell_4 rfl ?_
  refine xr_lconst 8 C (v := 0) dX9_retell_7 (by decide) rfl ?_
  refine xr_lstore_n 9 C dX9_retell_8 rfl (by decide) rfl [(3, mm_j 0), (0, mm_r v0), (1, mm_i v1), (2, mm_i v2)] rfl ?_
  refine xr_iconst 10 C (v := 0) dX9_retell_9 (by decide) rfl ?_
  refine xr_istore 12 C dX9_retell_10 (by decide) rfl [(5, mm_i 0), (3, mm_j 0), (0, mm_r v0), (1, mm_i v1), (2, mm_i v2)] rfl ?_
  refine xr_sub [2, 3, 4, 1, 0] (lv2 := [(0, mm_r v0), (1, mm_i v1), (2, mm_i v2), (3, mm_j 0), (5, mm_i 0)]) rfl ?_
  exact l_X9_retell_12 C hf ko
noncomputable def f_X9_retell (M : mm_M) (v0 : Option Nat) (v1 : Int32) (v2 : Int32) : Option (Int64 × mm_M) := f_X9_retell_0 M v0 v1 v2
theorem c_X9_retell (l : Launch) (G : va_G) (cy : Nat → ClassId) {M : mm_M} {v0 : Option Nat} {v1 : Int32} {v2 : Int32} {r : Int64} {M1 : mm_M} (hf : f_X9_retell M v0 v1 v2 = some (r, M1)) : mm_Met l yX9_retell cX9_retell 9 (some .long) 5 118 0 0 G cy [mm_r v0, mm_i v1, mm_i v2] M (some (mm_j r)) M1 :=
  mm_enter (by decide) (Nat.le_of_ble_eq_true rfl) (fun p e R s m args below meth c Q C hq => xr_sub [0, 1, 2] (lv2 := [(0, mm_r v0), (1, mm_i v1), (2, mm_i v2)]) rfl (w_X9_retell_0 C hf hq))
noncomputable def f_X9_surprise_15 (M : mm_M) : Option (Int64 × mm_M) :=
  some ((-1), M)
set_option maxRecDepth 20000 in
theorem w_X9_surprise_15 {g : mm_c} (C : mm_ok g cX9_surprise "LessonCards" (some .long) "surprise" 3 6 146 0 0) {M : mm_M} {res : Int64 × mm_M} (hf : f_X9_surprise_15 M = some res) (ko : (fun z => mm_q g 0 0 (some (mm_j z.1)) z.2) res) : mm_X g 0 0 M 15 [] [] := by
  unfold f_X9_surprise_15 at hf
  refine xr_ldc2 18 C wd_883 dX9_surprise_15 rfl ?_
  obtain rfl := Option.some.inj hf
  exact xr_lret C ko ⟨(Nat.le_of_ble_eq_true rfl), (Nat.le_of_ble_eq_true rfl)⟩ dX9_surprise_18
noncomputable def f_X9_surprise_19 (M : mm_M) (v0 : Option Nat) (v1 : Int32) (v2 : Int32) : Option (Int64 × mm_M) :=
  (mm_rc M v0 10).bind fun u22 =>
  mm_b2 (f_X9_retell M v0 v1 v2) fun x22 M22 =>
  some (x22, M22)
set_option maxRecDepth 20000 in
theorem w_X9_surprise_19 {g : mm_c} (C : mm_ok g cX9_surprise "LessonCards" (some .long) "surprise" 3 6 146 0 0) {M : mm_M} {v0 : Option Nat} {v1 : Int32} {v2 : Int32} {res : Int64 × mm_M} (hf : f_X9_surprise_19 M v0 v1 v2 = some res) (ko : (fun z => mm_q g 0 0 (some (mm_j z.1)) z.2) res) : mm_X g 0 0 M 19 [(0, mm_r v0), (1, mm_i v1), (2, mm_i v2)] [] := by
  unfold f_X9_surprise_19 at hf
  refine xr_aload_n 20 0 C dX9_surprise_19 rfl rfl rfl ?_
  refine xr_iload_n 21 1 C dX9_surprise_20 rfl rfl rfl ?_
  refine xr_iload_n 22 2 C dX9_surprise_21 rfl rfl rfl ?_
  obtain ⟨u22, g22, hf⟩ := mm_bd_e hf
  obtain ⟨x22, M22, h22, hf⟩ := mm_b2_e hf
  refine xr_callV 25 C [mm_i v1, mm_i v2] cm_X9_285 (fun l G cy => c_X9_retell l G cy h22) g22 rfl rfl ⟨⟨Nat.le_of_ble_eq_true rfl, Nat.le_of_ble_eq_true rfl⟩, (Nat.le_of_ble_eq_true rfl), (Nat.le_of_ble_eq_true rfl)⟩ (Nat.le_of_ble_eq_true rfl) dX9_surprise_22 rfl ?_
  obtain rfl := Option.some.inj hf
  exact xr_lret C ko ⟨(Nat.le_of_ble_eq_true rfl), (Nat.le_of_ble_eq_true rfl)⟩ dX9_surprise_25
noncomputable def f_X9_surprise_8 (M : mm_M) (v0 : Option Nat) (v1 : Int32) (v2 : Int32) : Option (Int64 × mm_M) :=
  (f_X9_isRule M v2).bind fun x9 =>
  if x9 = 0 then f_X9_surprise_15 M else f_X9_surprise_19 M v0 v1 v2
set_option maxRecDepth 20000 in
theorem w_X9_surprise_8 {g : mm_c} (C : mm_ok g cX9_surprise "LessonCards" (some .long) "surprise" 3 6 146 0 0) {M : mm_M} {v0 : Option Nat} {v1 : Int32} {v2 : Int32} {res : Int64 × mm_M} (hf : f_X9_surprise_8 M v0 v1 v2 = some res) (ko : (fun z => mm_q g 0 0 (some (mm_j z.1)) z.2) res) : mm_X g 0 0 M 8 [(0, mm_r v0), (1, mm_i v1), (2, mm_i v2)] [] := by
  unfold f_X9_surprise_8 at hf
  refine xr_iload_n 9 2 C dX9_surprise_8 rfl rfl rfl ?_
  obtain ⟨x9, h9, hf⟩ := mm_bd_e hf
  refine xr_callS 12 C [mm_i v2] cm_X9_97 (fun l G cy => c_X9_isRule l G cy h9) rfl rfl ⟨⟨Nat.le_of_ble_eq_true rfl, Nat.le_of_ble_eq_true rfl⟩, (Nat.le_of_ble_eq_true rfl), (Nat.le_of_ble_eq_true rfl)⟩ (Nat.le_of_ble_eq_true rfl) dX9_surprise_9 rfl ?_
  refine xr_if_ne 19 15 C dX9_surprise_12 (by decide) rfl (fun hc => ?_) (fun hc => ?_)
  · replace hf := (if_neg hc).symm.trans hf
    exact w_X9_surprise_19 C hf ko
  · replace hf := (if_pos hc).symm.trans hf
    refine xr_sub [] (lv2 := []) rfl ?_
    exact w_X9_surprise_15 C hf ko
noncomputable def f_X9_surprise_0 (M : mm_M) (v0 : Option Nat) (v1 : Int32) (v2 : Int32) : Option (Int64 × mm_M) :=
  (mm_rc M v0 10).bind fun u2 =>
  (f_X9_learnerAt M v0 v1).bind fun x2 =>
  if x2 = none then f_X9_surprise_15 M else f_X9_surprise_8 M v0 v1 v2
set_option maxRecDepth 20000 in
theorem w_X9_surprise_0 {g : mm_c} (C : mm_ok g cX9_surprise "LessonCards" (some .long) "surprise" 3 6 146 0 0) {M : mm_M} {v0 : Option Nat} {v1 : Int32} {v2 : Int32} {res : Int64 × mm_M} (hf : f_X9_surprise_0 M v0 v1 v2 = some res) (ko : (fun z => mm_q g 0 0 (some (mm_j z.1)) z.2) res) : mm_X g 0 0 M 0 [(0, mm_r v0), (1, mm_i v1), (2, mm_i v2)] [] := by
  unfold f_X9_surprise_0 at hf
  refine xr_aload_n 1 0 C dX9_surprise_0 rfl rfl rfl ?_
  refine xr_iload_n 2 1 C dX9_surprise_1 rfl rfl rfl ?_
  obtain ⟨u2, g2, hf⟩ := mm_bd_e hf
  obtain ⟨x2, h2, hf⟩ := mm_bd_e hf
  refine xr_callV 5 C [mm_i v1] cm_X9_104 (fun l G cy => c_X9_learnerAt l G cy h2) g2 rfl rfl ⟨⟨Nat.le_of_ble_eq_true rfl, Nat.le_of_ble_eq_true rfl⟩, (Nat.le_of_ble_eq_true rfl), (Nat.le_of_ble_eq_true rfl)⟩ (Nat.le_of_ble_eq_true rfl) dX9_surprise_2 rfl ?_
  refine xr_ifnull 15 8 C dX9_surprise_5 (by decide) rfl (fun hc => ?_) (fun hc => ?_)
  · replace hf := (if_pos hc).symm.trans hf
    refine xr_sub [] (lv2 := []) rfl ?_
    exact w_X9_surprise_15 C hf ko
  · replace hf := (if_neg hc).symm.trans hf
    exact w_X9_surprise_8 C hf ko
noncomputable def f_X9_surprise (M : mm_M) (v0 : Option Nat) (v1 : Int32) (v2 : Int32) : Option (Int64 × mm_M) := f_X9_surprise_0 M v0 v1 v2
theorem c_X9_surprise (l : Launch) (G : va_G) (cy : Nat → ClassId) {M : mm_M} {v0 : Option Nat} {v1 : Int32} {v2 : Int32} {r : Int64} {M1 : mm_M} (hf : f_X9_surprise M v0 v1 v2 = some (r, M1)) : mm_Met l yX9_surprise cX9_surprise 3 (some .long) 6 146 0 0 G cy [mm_r v0, mm_i v1, mm_i v2] M (some (mm_j r)) M1 :=
  mm_enter (by decide) (Nat.le_of_ble_eq_true rfl) (fun p e R s m args below meth c Q C hq => xr_sub [0, 1, 2] (lv2 := [(0, mm_r v0), (1, mm_i v1), (2, mm_i v2)]) rfl (w_X9_surprise_0 C hf hq))
def h_X9_better_22 (g : mm_c) (v0 : Option Nat) (v1 : Int32) : (mm_M × Int32 × Int64 × Int32) → Prop := fun x => mm_X g 0 0 x.1 22 [(0, mm_r v0), (1, mm_i v1), (2, mm_i x.2.1), (3, mm_j x.2.2.1), (5, mm_i x.2.2.2)] []
noncomputable def f_X9_better_8 (M : mm_M) : Option (Int32 × mm_M) :=
  some ((-1), M)
set_option maxRecDepth 20000 in
theorem w_X9_better_8 {g : mm_c} (C : mm_ok g cX9_better "LessonCards" (some .int) "better" 8 6 146 0 0) {M : mm_M} {res : Int32 × mm_M} (hf : f_X9_better_8 M = some res) (ko : (fun z => mm_q g 0 0 (some (mm_i z.1)) z.2) res) : mm_X g 0 0 M 8 [] [] := by
  unfold f_X9_better_8 at hf
  refine xr_iconst 9 C (v := (-1)) dX9_better_8 (by decide) rfl ?_
  obtain rfl := Option.some.inj hf
  exact xr_iret C ko ⟨(Nat.le_of_ble_eq_true rfl), (Nat.le_of_ble_eq_true rfl)⟩ dX9_better_9
noncomputable def f_X9_better_50 (M : mm_M) (v0 : Option Nat) (v1 : Int32) (v2 : Int32) (v3 : Int64) (v5 : Int32) : Option ((mm_M × Int32 × Int64 × Int32) ⊕ (Int32 × mm_M)) :=
  some (.inl (M, v2, v3, (v5 + 1)))
set_option maxRecDepth 20000 in
theorem w_X9_better_50 {g : mm_c} (C : mm_ok g cX9_better "LessonCards" (some .int) "better" 8 6 146 0 0) {M : mm_M} {v0 : Option Nat} {v1 : Int32} {v2 : Int32} {v3 : Int64} {v5 : Int32} {res : (mm_M × Int32 × Int64 × Int32) ⊕ (Int32 × mm_M)} (hf : f_X9_better_50 M v0 v1 v2 v3 v5 = some res) (ko : (mm_o (h_X9_better_22 g v0 v1) (fun z => mm_q g 0 0 (some (mm_i z.1)) z.2)) res) : mm_X g 0 0 M 50 [(0, mm_r v0), (1, mm_i v1), (2, mm_i v2), (3, mm_j v3), (5, mm_i v5)] [] := by
  unfold f_X9_better_50 at hf
  refine xr_iinc 53 4 C dX9_better_50 rfl (by decide) (v := 1) (by decide) rfl [(5, mm_i (v5 + 1)), (0, mm_r v0), (1, mm_i v1), (2, mm_i v2), (3, mm_j v3)] rfl ?_
  refine xr_goto 22 C dX9_better_53 (by decide) ?_
  refine xr_sub [1, 2, 3, 4, 0] (lv2 := [(0, mm_r v0), (1, mm_i v1), (2, mm_i v2), (3, mm_j v3), (5, mm_i (v5 + 1))]) rfl ?_
  obtain rfl := Option.some.inj hf
  exact ko
noncomputable def f_X9_better_44 (M : mm_M) (v0 : Option Nat) (v1 : Int32) (v5 : Int32) (v6 : Int64) : Option ((mm_M × Int32 × Int64 × Int32) ⊕ (Int32 × mm_M)) :=
  f_X9_better_50 M v0 v1 v5 v6 v5
set_option maxRecDepth 20000 in
theorem w_X9_better_44 {g : mm_c} (C : mm_ok g cX9_better "LessonCards" (some .int) "better" 8 6 146 0 0) {M : mm_M} {v0 : Option Nat} {v1 : Int32} {v5 : Int32} {v6 : Int64} {res : (mm_M × Int32 × Int64 × Int32) ⊕ (Int32 × mm_M)} (hf : f_X9_better_44 M v0 v1 v5 v6 = some res) (ko : (mm_o (h_X9_better_22 g v0 v1) (fun z => mm_q g 0 0 (some (mm_i z.1)) z.2)) res) : mm_X g 0 0 M 44 [(0, mm_r v0), (1, mm_i v1), (5, mm_i v5), (6, mm_j v6)] [] := by
  unfold f_X9_better_44 at hf
  refine xr_lload 46 3 C dX9_better_44 rfl rfl ?_
  refine xr_lstore_n 47 C dX9_better_46 rfl (by decide) rfl [(3, mm_j v6), (0, mm_r v0), (1, mm_i v1), (5, mm_i v5), (6, mm_j v6)] rfl ?_
  refine xr_iload 49 3 C dX9_better_47 rfl rfl ?_
  refine xr_istore_n 50 C dX9_better_49 rfl (by decide) rfl [(2, mm_i v5), (3, mm_j v6), (0, mm_r v0), (1, mm_i v1), (5, mm_i v5), (6, mm_j v6)] rfl ?_
  refine xr_sub [2, 3, 0, 1, 4] (lv2 := [(0, mm_r v0), (1, mm_i v1), (2, mm_i v5), (3, mm_j v6), (5, mm_i v5)]) rfl ?_
  exact w_X9_better_50 C hf ko
noncomputable def f_X9_better_28 (M : mm_M) (v0 : Option Nat) (v1 : Int32) (v2 : Int32) (v3 : Int64) (v5 : Int32) : Option ((mm_M × Int32 × Int64 × Int32) ⊕ (Int32 × mm_M)) :=
  (mm_rc M v0 10).bind fun u32 =>
  mm_b2 (f_X9_retell M v0 v1 v5) fun x32 M32 =>
  if 0 ≤ (lg_cmp x32 v3) then f_X9_better_50 M32 v0 v1 v2 v3 v5 else f_X9_better_44 M32 v0 v1 v5 x32
set_option maxRecDepth 20000 in
theorem w_X9_better_28 {g : mm_c} (C : mm_ok g cX9_better "LessonCards" (some .int) "better" 8 6 146 0 0) {M : mm_M} {v0 : Option Nat} {v1 : Int32} {v2 : Int32} {v3 : Int64} {v5 : Int32} {res : (mm_M × Int32 × Int64 × Int32) ⊕ (Int32 × mm_M)} (hf : f_X9_better_28 M v0 v1 v2 v3 v5 = some res) (ko : (mm_o (h_X9_better_22 g v0 v1) (fun z => mm_q g 0 0 (some (mm_i z.1)) z.2)) res) : mm_X g 0 0 M 28 [(0, mm_r v0), (1, mm_i v1), (2, mm_i v2), (3, mm_j v3), (5, mm_i v5)] [] := by
  unfold f_X9_better_28 at hf
  refine xr_aload_n 29 0 C dX9_better_28 rfl rfl rfl ?_
  refine xr_iload_n 30 1 C dX9_better_29 rfl rfl rfl ?_
  refine xr_iload 32 4 C dX9_better_30 rfl rfl ?_
  obtain ⟨u32, g32, hf⟩ := mm_bd_e hf
  obtain ⟨x32, M32, h32, hf⟩ := mm_b2_e hf
  refine xr_callV 35 C [mm_i v1, mm_i v5] cm_X9_285 (fun l G cy => c_X9_retell l G cy h32) g32 rfl rfl ⟨⟨Nat.le_of_ble_eq_true rfl, Nat.le_of_ble_eq_true rfl⟩, (Nat.le_of_ble_eq_true rfl), (Nat.le_of_ble_eq_true rfl)⟩ (Nat.le_of_ble_eq_true rfl) dX9_better_32 rfl ?_
  refine xr_lstore 37 C dX9_better_35 (by decide) rfl [(6, mm_j x32), (0, mm_r v0), (1, mm_i v1), (2, mm_i v2), (3, mm_j v3), (5, mm_i v5)] rfl ?_
  refine xr_lload 39 0 C dX9_better_37 rfl rfl ?_
  refine xr_lload_n 40 4 C dX9_better_39 rfl rfl rfl ?_
  refine xr_lcmp 41 C dX9_better_40 rfl ?_
  refine xr_if_ge 50 44 C dX9_better_41 (by decide) rfl (fun hc => ?_) (fun hc => ?_)
  · replace hf := (if_pos hc).symm.trans hf
    refine xr_sub [1, 2, 3, 4, 5] (lv2 := [(0, mm_r v0), (1, mm_i v1), (2, mm_i v2), (3, mm_j v3), (5, mm_i v5)]) rfl ?_
    exact w_X9_better_50 C hf ko
  · replace hf := (if_neg hc).symm.trans hf
    refine xr_sub [1, 2, 5, 0] (lv2 := [(0, mm_r v0), (1, mm_i v1), (5, mm_i v5), (6, mm_j x32)]) rfl ?_
    exact w_X9_better_44 C hf ko
noncomputable def f_X9_better_56 (M : mm_M) (v2 : Int32) : Option (Int32 × mm_M) :=
  some (v2, M)
set_option maxRecDepth 20000 in
theorem w_X9_better_56 {g : mm_c} (C : mm_ok g cX9_better "LessonCards" (some .int) "better" 8 6 146 0 0) {M : mm_M} {v2 : Int32} {res : Int32 × mm_M} (hf : f_X9_better_56 M v2 = some res) (ko : (fun z => mm_q g 0 0 (some (mm_i z.1)) z.2) res) : mm_X g 0 0 M 56 [(2, mm_i v2)] [] := by
  unfold f_X9_better_56 at hf
  refine xr_iload_n 57 0 C dX9_better_56 rfl rfl rfl ?_
  obtain rfl := Option.some.inj hf
  exact xr_iret C ko ⟨(Nat.le_of_ble_eq_true rfl), (Nat.le_of_ble_eq_true rfl)⟩ dX9_better_57
noncomputable def f_X9_better_22 (M : mm_M) (v0 : Option Nat) (v1 : Int32) (v2 : Int32) (v3 : Int64) (v5 : Int32) : Option ((mm_M × Int32 × Int64 × Int32) ⊕ (Int32 × mm_M)) :=
  if 2 < v5 then mm_mp (f_X9_better_56 M v2) else f_X9_better_28 M v0 v1 v2 v3 v5
set_option maxRecDepth 20000 in
theorem w_X9_better_22 {g : mm_c} (C : mm_ok g cX9_better "LessonCards" (some .int) "better" 8 6 146 0 0) {M : mm_M} {v0 : Option Nat} {v1 : Int32} {v2 : Int32} {v3 : Int64} {v5 : Int32} {res : (mm_M × Int32 × Int64 × Int32) ⊕ (Int32 × mm_M)} (hf : f_X9_better_22 M v0 v1 v2 v3 v5 = some res) (ko : (mm_o (h_X9_better_22 g v0 v1) (fun z => mm_q g 0 0 (some (mm_i z.1)) z.2)) res) : mm_X g 0 0 M 22 [(0, mm_r v0), (1, mm_i v1), (2, mm_i v2), (3, mm_j v3), (5, mm_i v5)] [] := by
  unfold f_X9_better_22 at hf
  refine xr_iload 24 4 C dX9_better_22 rfl rfl ?_
  refine xr_iconst 25 C (v := 2) dX9_better_24 (by decide) rfl ?_
  refine xr_icmp_gt 56 28 C dX9_better_25 (by decide) rfl (fun hc => ?_) (fun hc => ?_)
  · replace hf := (if_pos hc).symm.trans hf
    refine xr_sub [2] (lv2 := [(2, mm_i v2)]) rfl ?_
    obtain ⟨z, hf2, rfl⟩ := mm_mp_e hf
    clear hf
    have hf := hf2
    clear hf2
    exact w_X9_better_56 C hf ko
  · replace hf := (if_neg hc).symm.trans hf
    exact w_X9_better_28 C hf ko
noncomputable def f_X9_better_22w (M : mm_M) (v0 : Option Nat) (v1 : Int32) (v2 : Int32) (v3 : Int64) (v5 : Int32) : Option (Int32 × mm_M) := mm_w (fun x => f_X9_better_22 x.1 v0 v1 x.2.1 x.2.2.1 x.2.2.2) (M, v2, v3, v5)
theorem l_X9_better_22 {g : mm_c} (C : mm_ok g cX9_better "LessonCards" (some .int) "better" 8 6 146 0 0) {M : mm_M} {v0 : Option Nat} {v1 : Int32} {v2 : Int32} {v3 : Int64} {v5 : Int32} {res : Int32 × mm_M} (hf : f_X9_better_22w M v0 v1 v2 v3 v5 = some res) (ko : (fun z => mm_q g 0 0 (some (mm_i z.1)) z.2) res) : mm_X g 0 0 M 22 [(0, mm_r v0), (1, mm_i v1), (2, mm_i v2), (3, mm_j v3), (5, mm_i v5)] [] :=
  mm_w_W (body := fun x => f_X9_better_22 x.1 v0 v1 x.2.1 x.2.2.1 x.2.2.2) (Wh := h_X9_better_22 g v0 v1) (ok := (fun z => mm_q g 0 0 (some (mm_i z.1)) z.2)) (x := (M, v2, v3, v5)) (fun x r hb ho => w_X9_better_22 C hb ho) hf ko
noncomputable def f_X9_better_10 (M : mm_M) (v0 : Option Nat) (v1 : Int32) : Option (Int32 × mm_M) :=
  (mm_rc M v0 10).bind fun u15 =>
  mm_b2 (f_X9_retell M v0 v1 0) fun x15 M15 =>
  f_X9_better_22w M15 v0 v1 0 x15 1
set_option maxRecDepth 20000 in
theorem w_X9_better_10 {g : mm_c} (C : mm_ok g cX9_better "LessonCards" (some .int) "better" 8 6 146 0 0) {M : mm_M} {v0 : Option Nat} {v1 : Int32} {res : Int32 × mm_M} (hf : f_X9_better_10 M v0 v1 = some res) (ko : (fun z => mm_q g 0 0 (some (mm_i z.1)) z.2) res) : mm_X g 0 0 M 10 [(0, mm_r v0), (1, mm_i v1)] [] := by
  unfold f_X9_better_10 at hf
  refine xr_iconst 11 C (v := 0) dX9_better_10 (by decide) rfl ?_
  refine xr_istore_n 12 C dX9_better_11 rfl (by decide) rfl [(2, mm_i 0), (0, mm_r v0), (1, mm_i v1)] rfl ?_
  refine xr_aload_n 13 1 C dX9_better_12 rfl rfl rfl ?_
  refine xr_iload_n 14 2 C dX9_better_13 rfl rfl rfl ?_
  refine xr_iconst 15 C (v := 0) dX9_better_14 (by decide) rfl ?_
  obtain ⟨u15, g15, hf⟩ := mm_bd_e hf
  obtain ⟨x15, M15, h15, hf⟩ := mm_b2_e hf
  refine xr_callV 18 C [mm_i v1, mm_i 0] cm_X9_285 (fun l G cy => c_X9_retell l G cy h15) g15 rfl rfl ⟨⟨Nat.le_of_ble_eq_true rfl, Nat.le_of_ble_eq_true rfl⟩, (Nat.le_of_ble_eq_true rfl), (Nat.le_of_ble_eq_true rfl)⟩ (Nat.le_of_ble_eq_true rfl) dX9_better_15 rfl ?_
  refine xr_lstore_n 19 C dX9_better_18 rfl (by decide) rfl [(3, mm_j x15), (2, mm_i 0), (0, mm_r v0), (1, mm_i v1)] rfl ?_
  refine xr_iconst 20 C (v := 1) dX9_better_19 (by decide) rfl ?_
  refine xr_istore 22 C dX9_better_20 (by decide) rfl [(5, mm_i 1), (3, mm_j x15), (2, mm_i 0), (0, mm_r v0), (1, mm_i v1)] rfl ?_
  refine xr_sub [3, 4, 2, 1, 0] (lv2 := [(0, mm_r v0), (1, mm_i v1), (2, mm_i 0), (3, mm_j x15), (5, mm_i 1)]) rfl ?_
  exact l_X9_better_22 C hf ko
noncomputable def f_X9_better_0 (M : mm_M) (v0 : Option Nat) (v1 : Int32) : Option (Int32 × mm_M) :=
  (mm_rc M v0 10).bind fun u2 =>
  (f_X9_learnerAt M v0 v1).bind fun x2 =>
  if x2 = none then f_X9_better_8 M else f_X9_better_10 M v0 v1
set_option maxRecDepth 20000 in
theorem w_X9_better_0 {g : mm_c} (C : mm_ok g cX9_better "LessonCards" (some .int) "better" 8 6 146 0 0) {M : mm_M} {v0 : Option Nat} {v1 : Int32} {res : Int32 × mm_M} (hf : f_X9_better_0 M v0 v1 = some res) (ko : (fun z => mm_q g 0 0 (some (mm_i z.1)) z.2) res) : mm_X g 0 0 M 0 [(0, mm_r v0), (1, mm_i v1)] [] := by
  unfold f_X9_better_0 at hf
  refine xr_aload_n 1 0 C dX9_better_0 rfl rfl rfl ?_
  refine xr_iload_n 2 1 C dX9_better_1 rfl rfl rfl ?_
  obtain ⟨u2, g2, hf⟩ := mm_bd_e hf
  obtain ⟨x2, h2, hf⟩ := mm_bd_e hf
  refine xr_callV 5 C [mm_i v1] cm_X9_104 (fun l G cy => c_X9_learnerAt l G cy h2) g2 rfl rfl ⟨⟨Nat.le_of_ble_eq_true rfl, Nat.le_of_ble_eq_true rfl⟩, (Nat.le_of_ble_eq_true rfl), (Nat.le_of_ble_eq_true rfl)⟩ (Nat.le_of_ble_eq_true rfl) dX9_better_2 rfl ?_
  refine xr_ifnonnull 10 8 C dX9_better_5 (by decide) rfl (fun hc => ?_) (fun hc => ?_)
  · replace hf := (if_neg hc).symm.trans hf
    exact w_X9_better_10 C hf ko
  · replace hf := (if_pos hc).symm.trans hf
    refine xr_sub [] (lv2 := []) rfl ?_
    exact w_X9_better_8 C hf ko
noncomputable def f_X9_better (M : mm_M) (v0 : Option Nat) (v1 : Int32) : Option (Int32 × mm_M) := f_X9_better_0 M v0 v1
theorem c_X9_better (l : Launch) (G : va_G) (cy : Nat → ClassId) {M : mm_M} {v0 : Option Nat} {v1 : Int32} {r : Int32} {M1 : mm_M} (hf : f_X9_better M v0 v1 = some (r, M1)) : mm_Met l yX9_better cX9_better 8 (some .int) 6 146 0 0 G cy [mm_r v0, mm_i v1] M (some (mm_i r)) M1 :=
  mm_enter (by decide) (Nat.le_of_ble_eq_true rfl) (fun p e R s m args below meth c Q C hq => xr_sub [0, 1] (lv2 := [(0, mm_r v0), (1, mm_i v1)]) rfl (w_X9_better_0 C hf hq))
noncomputable def f_X9_other_32 (M : mm_M) : Option (Int32 × mm_M) :=
  some ((-1), M)
set_option maxRecDepth 20000 in
theorem w_X9_other_32 {g : mm_c} (C : mm_ok g cX9_other "LessonCards" (some .int) "other" 6 6 146 0 0) {M : mm_M} {res : Int32 × mm_M} (hf : f_X9_other_32 M = some res) (ko : (fun z => mm_q g 0 0 (some (mm_i z.1)) z.2) res) : mm_X g 0 0 M 32 [] [] := by
  unfold f_X9_other_32 at hf
  refine xr_iconst 33 C (v := (-1)) dX9_other_32 (by decide) rfl ?_
  obtain rfl := Option.some.inj hf
  exact xr_iret C ko ⟨(Nat.le_of_ble_eq_true rfl), (Nat.le_of_ble_eq_true rfl)⟩ dX9_other_33
noncomputable def f_X9_other_34 (M : mm_M) (v0 : Option Nat) (v1 : Int32) (v2 : Int32) (v5 : Option Nat) : Option (Int32 × mm_M) :=
  (mm_rc M v0 10).bind fun u37 =>
  mm_b2 (f_X9_retell M v0 v1 v2) fun x37 M37 =>
  (mm_fI M37 v5 9 0).bind fun x43 =>
  some (x43, M37)
set_option maxRecDepth 20000 in
theorem w_X9_other_34 {g : mm_c} (C : mm_ok g cX9_other "LessonCards" (some .int) "other" 6 6 146 0 0) {M : mm_M} {v0 : Option Nat} {v1 : Int32} {v2 : Int32} {v5 : Option Nat} {res : Int32 × mm_M} (hf : f_X9_other_34 M v0 v1 v2 v5 = some res) (ko : (fun z => mm_q g 0 0 (some (mm_i z.1)) z.2) res) : mm_X g 0 0 M 34 [(0, mm_r v0), (1, mm_i v1), (2, mm_i v2), (5, mm_r v5)] [] := by
  unfold f_X9_other_34 at hf
  refine xr_aload_n 35 0 C dX9_other_34 rfl rfl rfl ?_
  refine xr_iload_n 36 1 C dX9_other_35 rfl rfl rfl ?_
  refine xr_iload_n 37 2 C dX9_other_36 rfl rfl rfl ?_
  obtain ⟨u37, g37, hf⟩ := mm_bd_e hf
  obtain ⟨x37, M37, h37, hf⟩ := mm_b2_e hf
  refine xr_callV 40 C [mm_i v1, mm_i v2] cm_X9_285 (fun l G cy => c_X9_retell l G cy h37) g37 rfl rfl ⟨⟨Nat.le_of_ble_eq_true rfl, Nat.le_of_ble_eq_true rfl⟩, (Nat.le_of_ble_eq_true rfl), (Nat.le_of_ble_eq_true rfl)⟩ (Nat.le_of_ble_eq_true rfl) dX9_other_37 rfl ?_
  refine xr_pop2_2 41 C dX9_other_40 rfl rfl ?_
  refine xr_aload 43 3 C dX9_other_41 rfl rfl ?_
  obtain ⟨x43, h43, hf⟩ := mm_bd_e hf
  refine xr_getI 46 C cf_X9_289 rfl h43 dX9_other_43 rfl ?_
  obtain rfl := Option.some.inj hf
  exact xr_iret C ko ⟨(Nat.le_of_ble_eq_true rfl), (Nat.le_of_ble_eq_true rfl)⟩ dX9_other_46
noncomputable def f_X9_other_27 (M : mm_M) (v0 : Option Nat) (v1 : Int32) (v2 : Int32) (v5 : Option Nat) : Option (Int32 × mm_M) :=
  if v5 = none then f_X9_other_32 M else f_X9_other_34 M v0 v1 v2 v5
set_option maxRecDepth 20000 in
theorem w_X9_other_27 {g : mm_c} (C : mm_ok g cX9_other "LessonCards" (some .int) "other" 6 6 146 0 0) {M : mm_M} {v0 : Option Nat} {v1 : Int32} {v2 : Int32} {v5 : Option Nat} {res : Int32 × mm_M} (hf : f_X9_other_27 M v0 v1 v2 v5 = some res) (ko : (fun z => mm_q g 0 0 (some (mm_i z.1)) z.2) res) : mm_X g 0 0 M 27 [(0, mm_r v0), (1, mm_i v1), (2, mm_i v2), (5, mm_r v5)] [] := by
  unfold f_X9_other_27 at hf
  refine xr_aload 29 3 C dX9_other_27 rfl rfl ?_
  refine xr_ifnonnull 34 32 C dX9_other_29 (by decide) rfl (fun hc => ?_) (fun hc => ?_)
  · replace hf := (if_neg hc).symm.trans hf
    exact w_X9_other_34 C hf ko
  · replace hf := (if_pos hc).symm.trans hf
    refine xr_sub [] (lv2 := []) rfl ?_
    exact w_X9_other_32 C hf ko
noncomputable def f_X9_other_20 (M : mm_M) (v0 : Option Nat) (v1 : Int32) (v2 : Int32) (v5 : Option Nat) : Option (Int32 × mm_M) :=
  (f_X9_isRule M v2).bind fun x21 =>
  if x21 = 0 then f_X9_other_32 M else f_X9_other_27 M v0 v1 v2 v5
set_option maxRecDepth 20000 in
theorem w_X9_other_20 {g : mm_c} (C : mm_ok g cX9_other "LessonCards" (some .int) "other" 6 6 146 0 0) {M : mm_M} {v0 : Option Nat} {v1 : Int32} {v2 : Int32} {v5 : Option Nat} {res : Int32 × mm_M} (hf : f_X9_other_20 M v0 v1 v2 v5 = some res) (ko : (fun z => mm_q g 0 0 (some (mm_i z.1)) z.2) res) : mm_X g 0 0 M 20 [(0, mm_r v0), (1, mm_i v1), (2, mm_i v2), (5, mm_r v5)] [] := by
  unfold f_X9_other_20 at hf
  refine xr_iload_n 21 2 C dX9_other_20 rfl rfl rfl ?_
  obtain ⟨x21, h21, hf⟩ := mm_bd_e hf
  refine xr_callS 24 C [mm_i v2] cm_X9_97 (fun l G cy => c_X9_isRule l G cy h21) rfl rfl ⟨⟨Nat.le_of_ble_eq_true rfl, Nat.le_of_ble_eq_true rfl⟩, (Nat.le_of_ble_eq_true rfl), (Nat.le_of_ble_eq_true rfl)⟩ (Nat.le_of_ble_eq_true rfl) dX9_other_21 rfl ?_
  refine xr_if_eq 32 27 C dX9_other_24 (by decide) rfl (fun hc => ?_) (fun hc => ?_)
  · replace hf := (if_pos hc).symm.trans hf
    refine xr_sub [] (lv2 := []) rfl ?_
    exact w_X9_other_32 C hf ko
  · replace hf := (if_neg hc).symm.trans hf
    exact w_X9_other_27 C hf ko
noncomputable def f_X9_other_0 (M : mm_M) (v0 : Option Nat) (v1 : Int32) (v2 : Int32) (v3 : Int32) (v4 : Int32) : Option (Int32 × mm_M) :=
  (mm_fR M v0 10 3).bind fun x1 =>
  (mm_rc M x1 7).bind fun u7 =>
  (f_X6_memoryOf M x1 v3 v4).bind fun x7 =>
  (mm_rc M v0 10).bind fun u14 =>
  (f_X9_learnerAt M v0 v1).bind fun x14 =>
  if x14 = none then f_X9_other_32 M else f_X9_other_20 M v0 v1 v2 x7
set_option maxRecDepth 20000 in
theorem w_X9_other_0 {g : mm_c} (C : mm_ok g cX9_other "LessonCards" (some .int) "other" 6 6 146 0 0) {M : mm_M} {v0 : Option Nat} {v1 : Int32} {v2 : Int32} {v3 : Int32} {v4 : Int32} {res : Int32 × mm_M} (hf : f_X9_other_0 M v0 v1 v2 v3 v4 = some res) (ko : (fun z => mm_q g 0 0 (some (mm_i z.1)) z.2) res) : mm_X g 0 0 M 0 [(0, mm_r v0), (1, mm_i v1), (2, mm_i v2), (3, mm_i v3), (4, mm_i v4)] [] := by
  unfold f_X9_other_0 at hf
  refine xr_aload_n 1 0 C dX9_other_0 rfl rfl rfl ?_
  obtain ⟨x1, h1, hf⟩ := mm_bd_e hf
  refine xr_getR 4 C cf_X9_30 rfl h1 dX9_other_1 rfl ?_
  refine xr_iload_n 5 3 C dX9_other_4 rfl rfl rfl ?_
  refine xr_iload 7 4 C dX9_other_5 rfl rfl ?_
  obtain ⟨u7, g7, hf⟩ := mm_bd_e hf
  obtain ⟨x7, h7, hf⟩ := mm_bd_e hf
  refine xr_callV 10 C [mm_i v3, mm_i v4] cm_X9_229 (fun l G cy => c_X6_memoryOf l G cy h7) g7 rfl rfl ⟨⟨Nat.le_of_ble_eq_true rfl, Nat.le_of_ble_eq_true rfl⟩, (Nat.le_of_ble_eq_true rfl), (Nat.le_of_ble_eq_true rfl)⟩ (Nat.le_of_ble_eq_true rfl) dX9_other_7 rfl ?_
  refine xr_astore 12 C dX9_other_10 (by decide) rfl [(5, mm_r x7), (0, mm_r v0), (1, mm_i v1), (2, mm_i v2), (3, mm_i v3), (4, mm_i v4)] rfl ?_
  refine xr_aload_n 13 1 C dX9_other_12 rfl rfl rfl ?_
  refine xr_iload_n 14 2 C dX9_other_13 rfl rfl rfl ?_
  obtain ⟨u14, g14, hf⟩ := mm_bd_e hf
  obtain ⟨x14, h14, hf⟩ := mm_bd_e hf
  refine xr_callV 17 C [mm_i v1] cm_X9_104 (fun l G cy => c_X9_learnerAt l G cy h14) g14 rfl rfl ⟨⟨Nat.le_of_ble_eq_true rfl, Nat.le_of_ble_eq_true rfl⟩, (Nat.le_of_ble_eq_true rfl), (Nat.le_of_ble_eq_true rfl)⟩ (Nat.le_of_ble_eq_true rfl) dX9_other_14 rfl ?_
  refine xr_ifnull 32 20 C dX9_other_17 (by decide) rfl (fun hc => ?_) (fun hc => ?_)
  · replace hf := (if_pos hc).symm.trans hf
    refine xr_sub [] (lv2 := []) rfl ?_
    exact w_X9_other_32 C hf ko
  · replace hf := (if_neg hc).symm.trans hf
    refine xr_sub [1, 2, 3, 0] (lv2 := [(0, mm_r v0), (1, mm_i v1), (2, mm_i v2), (5, mm_r x7)]) rfl ?_
    exact w_X9_other_20 C hf ko
noncomputable def f_X9_other (M : mm_M) (v0 : Option Nat) (v1 : Int32) (v2 : Int32) (v3 : Int32) (v4 : Int32) : Option (Int32 × mm_M) := f_X9_other_0 M v0 v1 v2 v3 v4
theorem c_X9_other (l : Launch) (G : va_G) (cy : Nat → ClassId) {M : mm_M} {v0 : Option Nat} {v1 : Int32} {v2 : Int32} {v3 : Int32} {v4 : Int32} {r : Int32} {M1 : mm_M} (hf : f_X9_other M v0 v1 v2 v3 v4 = some (r, M1)) : mm_Met l yX9_other cX9_other 6 (some .int) 6 146 0 0 G cy [mm_r v0, mm_i v1, mm_i v2, mm_i v3, mm_i v4] M (some (mm_i r)) M1 :=
  mm_enter (by decide) (Nat.le_of_ble_eq_true rfl) (fun p e R s m args below meth c Q C hq => xr_sub [0, 1, 2, 3, 4] (lv2 := [(0, mm_r v0), (1, mm_i v1), (2, mm_i v2), (3, mm_i v3), (4, mm_i v4)]) rfl (w_X9_other_0 C hf hq))
noncomputable def f_X9_check_10 (M : mm_M) : Option (Int32 × mm_M) :=
  some ((-1), M)
set_option maxRecDepth 20000 in
theorem w_X9_check_10 {g : mm_c} (C : mm_ok g cX9_check "LessonCards" (some .int) "check" 3 6 146 0 0) {M : mm_M} {res : Int32 × mm_M} (hf : f_X9_check_10 M = some res) (ko : (fun z => mm_q g 0 0 (some (mm_i z.1)) z.2) res) : mm_X g 0 0 M 10 [] [] := by
  unfold f_X9_check_10 at hf
  refine xr_iconst 11 C (v := (-1)) dX9_check_10 (by decide) rfl ?_
  obtain rfl := Option.some.inj hf
  exact xr_iret C ko ⟨(Nat.le_of_ble_eq_true rfl), (Nat.le_of_ble_eq_true rfl)⟩ dX9_check_11
noncomputable def f_X9_check_35 (M : mm_M) (s0 : Int32) : Option (Int32 × mm_M) :=
  some (s0, M)
set_option maxRecDepth 20000 in
theorem w_X9_check_35 {g : mm_c} (C : mm_ok g cX9_check "LessonCards" (some .int) "check" 3 6 146 0 0) {M : mm_M} {s0 : Int32} {res : Int32 × mm_M} (hf : f_X9_check_35 M s0 = some res) (ko : (fun z => mm_q g 0 0 (some (mm_i z.1)) z.2) res) : mm_X g 0 0 M 35 [] [mm_i s0] := by
  unfold f_X9_check_35 at hf
  obtain rfl := Option.some.inj hf
  exact xr_iret C ko ⟨(Nat.le_of_ble_eq_true rfl), (Nat.le_of_ble_eq_true rfl)⟩ dX9_check_35
noncomputable def f_X9_check_30 (M : mm_M) : Option (Int32 × mm_M) :=
  f_X9_check_35 M 1
set_option maxRecDepth 20000 in
theorem w_X9_check_30 {g : mm_c} (C : mm_ok g cX9_check "LessonCards" (some .int) "check" 3 6 146 0 0) {M : mm_M} {res : Int32 × mm_M} (hf : f_X9_check_30 M = some res) (ko : (fun z => mm_q g 0 0 (some (mm_i z.1)) z.2) res) : mm_X g 0 0 M 30 [] [] := by
  unfold f_X9_check_30 at hf
  refine xr_iconst 31 C (v := 1) dX9_check_30 (by decide) rfl ?_
  refine xr_goto 35 C dX9_check_31 (by decide) ?_
  exact w_X9_check_35 C hf ko
noncomputable def f_X9_check_34 (M : mm_M) : Option (Int32 × mm_M) :=
  f_X9_check_35 M 0
set_option maxRecDepth 20000 in
theorem w_X9_check_34 {g : mm_c} (C : mm_ok g cX9_check "LessonCards" (some .int) "check" 3 6 146 0 0) {M : mm_M} {res : Int32 × mm_M} (hf : f_X9_check_34 M = some res) (ko : (fun z => mm_q g 0 0 (some (mm_i z.1)) z.2) res) : mm_X g 0 0 M 34 [] [] := by
  unfold f_X9_check_34 at hf
  refine xr_iconst 35 C (v := 0) dX9_check_34 (by decide) rfl ?_
  exact w_X9_check_35 C hf ko
noncomputable def f_X9_check_12 (M : mm_M) (v0 : Option Nat) (v1 : Int32) (v2 : Option Nat) : Option (Int32 × mm_M) :=
  (mm_rc M v0 10).bind fun u15 =>
  mm_b2 (f_X9_retell M v0 v1 3) fun x15 M15 =>
  (mm_fR M15 v0 10 3).bind fun x21 =>
  (mm_rc M15 v2 7).bind fun u24 =>
  (f_X6_isLike M15 v2 x21).bind fun x24 =>
  if x24 = 0 then f_X9_check_34 M15 else f_X9_check_30 M15
set_option maxRecDepth 20000 in
theorem w_X9_check_12 {g : mm_c} (C : mm_ok g cX9_check "LessonCards" (some .int) "check" 3 6 146 0 0) {M : mm_M} {v0 : Option Nat} {v1 : Int32} {v2 : Option Nat} {res : Int32 × mm_M} (hf : f_X9_check_12 M v0 v1 v2 = some res) (ko : (fun z => mm_q g 0 0 (some (mm_i z.1)) z.2) res) : mm_X g 0 0 M 12 [(0, mm_r v0), (1, mm_i v1), (2, mm_r v2)] [] := by
  unfold f_X9_check_12 at hf
  refine xr_aload_n 13 0 C dX9_check_12 rfl rfl rfl ?_
  refine xr_iload_n 14 1 C dX9_check_13 rfl rfl rfl ?_
  refine xr_iconst 15 C (v := 3) dX9_check_14 (by decide) rfl ?_
  obtain ⟨u15, g15, hf⟩ := mm_bd_e hf
  obtain ⟨x15, M15, h15, hf⟩ := mm_b2_e hf
  refine xr_callV 18 C [mm_i v1, mm_i 3] cm_X9_285 (fun l G cy => c_X9_retell l G cy h15) g15 rfl rfl ⟨⟨Nat.le_of_ble_eq_true rfl, Nat.le_of_ble_eq_true rfl⟩, (Nat.le_of_ble_eq_true rfl), (Nat.le_of_ble_eq_true rfl)⟩ (Nat.le_of_ble_eq_true rfl) dX9_check_15 rfl ?_
  refine xr_pop2_2 19 C dX9_check_18 rfl rfl ?_
  refine xr_aload_n 20 2 C dX9_check_19 rfl rfl rfl ?_
  refine xr_aload_n 21 0 C dX9_check_20 rfl rfl rfl ?_
  obtain ⟨x21, h21, hf⟩ := mm_bd_e hf
  refine xr_getR 24 C cf_X9_30 rfl h21 dX9_check_21 rfl ?_
  obtain ⟨u24, g24, hf⟩ := mm_bd_e hf
  obtain ⟨x24, h24, hf⟩ := mm_bd_e hf
  refine xr_callV 27 C [mm_r x21] cm_X9_292 (fun l G cy => c_X6_isLike l G cy h24) g24 rfl rfl ⟨⟨Nat.le_of_ble_eq_true rfl, Nat.le_of_ble_eq_true rfl⟩, (Nat.le_of_ble_eq_true rfl), (Nat.le_of_ble_eq_true rfl)⟩ (Nat.le_of_ble_eq_true rfl) dX9_check_24 rfl ?_
  refine xr_if_eq 34 30 C dX9_check_27 (by decide) rfl (fun hc => ?_) (fun hc => ?_)
  · replace hf := (if_pos hc).symm.trans hf
    refine xr_sub [] (lv2 := []) rfl ?_
    exact w_X9_check_34 C hf ko
  · replace hf := (if_neg hc).symm.trans hf
    refine xr_sub [] (lv2 := []) rfl ?_
    exact w_X9_check_30 C hf ko
noncomputable def f_X9_check_0 (M : mm_M) (v0 : Option Nat) (v1 : Int32) : Option (Int32 × mm_M) :=
  (mm_rc M v0 10).bind fun u2 =>
  (f_X9_learnerAt M v0 v1).bind fun x2 =>
  if x2 = none then f_X9_check_10 M else f_X9_check_12 M v0 v1 x2
set_option maxRecDepth 20000 in
theorem w_X9_check_0 {g : mm_c} (C : mm_ok g cX9_check "LessonCards" (some .int) "check" 3 6 146 0 0) {M : mm_M} {v0 : Option Nat} {v1 : Int32} {res : Int32 × mm_M} (hf : f_X9_check_0 M v0 v1 = some res) (ko : (fun z => mm_q g 0 0 (some (mm_i z.1)) z.2) res) : mm_X g 0 0 M 0 [(0, mm_r v0), (1, mm_i v1)] [] := by
  unfold f_X9_check_0 at hf
  refine xr_aload_n 1 0 C dX9_check_0 rfl rfl rfl ?_
  refine xr_iload_n 2 1 C dX9_check_1 rfl rfl rfl ?_
  obtain ⟨u2, g2, hf⟩ := mm_bd_e hf
  obtain ⟨x2, h2, hf⟩ := mm_bd_e hf
  refine xr_callV 5 C [mm_i v1] cm_X9_104 (fun l G cy => c_X9_learnerAt l G cy h2) g2 rfl rfl ⟨⟨Nat.le_of_ble_eq_true rfl, Nat.le_of_ble_eq_true rfl⟩, (Nat.le_of_ble_eq_true rfl), (Nat.le_of_ble_eq_true rfl)⟩ (Nat.le_of_ble_eq_true rfl) dX9_check_2 rfl ?_
  refine xr_astore_n 6 C dX9_check_5 rfl (by decide) rfl [(2, mm_r x2), (0, mm_r v0), (1, mm_i v1)] rfl ?_
  refine xr_aload_n 7 0 C dX9_check_6 rfl rfl rfl ?_
  refine xr_ifnonnull 12 10 C dX9_check_7 (by decide) rfl (fun hc => ?_) (fun hc => ?_)
  · replace hf := (if_neg hc).symm.trans hf
    refine xr_sub [1, 2, 0] (lv2 := [(0, mm_r v0), (1, mm_i v1), (2, mm_r x2)]) rfl ?_
    exact w_X9_check_12 C hf ko
  · replace hf := (if_pos hc).symm.trans hf
    refine xr_sub [] (lv2 := []) rfl ?_
    exact w_X9_check_10 C hf ko
noncomputable def f_X9_check (M : mm_M) (v0 : Option Nat) (v1 : Int32) : Option (Int32 × mm_M) := f_X9_check_0 M v0 v1
theorem c_X9_check (l : Launch) (G : va_G) (cy : Nat → ClassId) {M : mm_M} {v0 : Option Nat} {v1 : Int32} {r : Int32} {M1 : mm_M} (hf : f_X9_check M v0 v1 = some (r, M1)) : mm_Met l yX9_check cX9_check 3 (some .int) 6 146 0 0 G cy [mm_r v0, mm_i v1] M (some (mm_i r)) M1 :=
  mm_enter (by decide) (Nat.le_of_ble_eq_true rfl) (fun p e R s m args below meth c Q C hq => xr_sub [0, 1] (lv2 := [(0, mm_r v0), (1, mm_i v1)]) rfl (w_X9_check_0 C hf hq))
