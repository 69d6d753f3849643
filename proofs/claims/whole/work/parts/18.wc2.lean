def h_X6_countSides_5 (g : mm_c) (M : mm_M) (v0 : Option Nat) (v1 : Int32) (v2 : Option Nat) : (Int32 × Int32) → Prop := fun x => mm_X g 0 0 M 5 [(0, mm_r v0), (1, mm_i v1), (2, mm_r v2), (3, mm_i x.1), (4, mm_i x.2)] []
noncomputable def f_X6_countSides_17 (M : mm_M) (v0 : Option Nat) (v1 : Int32) (v2 : Option Nat) (v3 : Int32) (v4 : Int32) : Option ((Int32 × Int32) ⊕ (Int32)) :=
  (mm_fR M v0 7 0).bind fun x19 =>
  (mm_rc M x19 0).bind fun u24 =>
  (f_Jx4a65c_get_915e3 M x19 v4).bind fun x24 =>
  (mm_cc M x24 6).bind fun u27 =>
  (mm_fI M v0 7 3).bind fun x32 =>
  (mm_rc M x24 6).bind fun u36 =>
  (f_X5_countSides M x24 v1 x32 v2).bind fun x36 =>
  some (.inl ((v3 + x36), (v4 + 1)))
set_option maxRecDepth 20000 in
theorem w_X6_countSides_17 {g : mm_c} (C : mm_ok g cX6_countSides "LessonCards$Learner" (some .int) "countSides" 5 5 113 0 0) {M : mm_M} {v0 : Option Nat} {v1 : Int32} {v2 : Option Nat} {v3 : Int32} {v4 : Int32} {res : (Int32 × Int32) ⊕ (Int32)} (hf : f_X6_countSides_17 M v0 v1 v2 v3 v4 = some res) (ko : (mm_o (h_X6_countSides_5 g M v0 v1 v2) (fun z => mm_q g 0 0 (some (mm_i z)) M)) res) : mm_X g 0 0 M 17 [(0, mm_r v0), (1, mm_i v1), (2, mm_r v2), (3, mm_i v3), (4, mm_i v4)] [] := by
  unfold f_X6_countSides_17 at hf
  refine xr_iload_n 18 3 C dX6_countSides_17 rfl rfl rfl ?_
  refine xr_aload_n 19 0 C dX6_countSides_18 rfl rfl rfl ?_
  obtain ⟨x19, h19, hf⟩ := mm_bd_e hf
  refine xr_getR 22 C cf_X6_12 rfl h19 dX6_countSides_19 rfl ?_
  refine xr_iload 24 4 C dX6_countSides_22 rfl rfl ?_
  obtain ⟨u24, g24, hf⟩ := mm_bd_e hf
  obtain ⟨x24, h24, hf⟩ := mm_bd_e hf
  refine xr_callV 27 C [mm_i v4] cm_X6_35 (fun l G cy => c_Jx4a65c_get_915e3 l G cy h24) g24 rfl rfl ⟨⟨Nat.le_of_ble_eq_true rfl, Nat.le_of_ble_eq_true rfl⟩, (Nat.le_of_ble_eq_true rfl), (Nat.le_of_ble_eq_true rfl)⟩ (Nat.le_of_ble_eq_true rfl) dX6_countSides_24 rfl ?_
  obtain ⟨u27, h27, hf⟩ := mm_bd_e hf
  refine xr_cast 30 C (ci := 6) rfl (by decide) wd_259 h27 dX6_countSides_27 rfl ?_
  refine xr_iload_n 31 1 C dX6_countSides_30 rfl rfl rfl ?_
  refine xr_aload_n 32 0 C dX6_countSides_31 rfl rfl rfl ?_
  obtain ⟨x32, h32, hf⟩ := mm_bd_e hf
  refine xr_getI 35 C cf_X6_47 rfl h32 dX6_countSides_32 rfl ?_
  refine xr_aload_n 36 2 C dX6_countSides_35 rfl rfl rfl ?_
  obtain ⟨u36, g36, hf⟩ := mm_bd_e hf
  obtain ⟨x36, h36, hf⟩ := mm_bd_e hf
  refine xr_callV 39 C [mm_i v1, mm_i x32, mm_r v2] cm_X6_68 (fun l G cy => c_X5_countSides l G cy h36) g36 rfl rfl ⟨⟨Nat.le_of_ble_eq_true rfl, Nat.le_of_ble_eq_true rfl⟩, (Nat.le_of_ble_eq_true rfl), (Nat.le_of_ble_eq_true rfl)⟩ (Nat.le_of_ble_eq_true rfl) dX6_countSides_36 rfl ?_
  refine xr_iadd 40 C dX6_countSides_39 rfl ?_
  refine xr_istore_n 41 C dX6_countSides_40 rfl (by decide) rfl [(3, mm_i (v3 + x36)), (0, mm_r v0), (1, mm_i v1), (2, mm_r v2), (4, mm_i v4)] rfl ?_
  refine xr_iinc 44 4 C dX6_countSides_41 rfl (by decide) (v := 1) (by decide) rfl [(4, mm_i (v4 + 1)), (3, mm_i (v3 + x36)), (0, mm_r v0), (1, mm_i v1), (2, mm_r v2)] rfl ?_
  refine xr_goto 5 C dX6_countSides_44 (by decide) ?_
  refine xr_sub [2, 3, 4, 1, 0] (lv2 := [(0, mm_r v0), (1, mm_i v1), (2, mm_r v2), (3, mm_i (v3 + x36)), (4, mm_i (v4 + 1))]) rfl ?_
  obtain rfl := Option.some.inj hf
  exact ko
noncomputable def f_X6_countSides_47 (M : mm_M) (v3 : Int32) : Option (Int32) :=
  some v3
set_option maxRecDepth 20000 in
theorem w_X6_countSides_47 {g : mm_c} (C : mm_ok g cX6_countSides "LessonCards$Learner" (some .int) "countSides" 5 5 113 0 0) {M : mm_M} {v3 : Int32} {res : Int32} (hf : f_X6_countSides_47 M v3 = some res) (ko : (fun z => mm_q g 0 0 (some (mm_i z)) M) res) : mm_X g 0 0 M 47 [(3, mm_i v3)] [] := by
  unfold f_X6_countSides_47 at hf
  refine xr_iload_n 48 0 C dX6_countSides_47 rfl rfl rfl ?_
  obtain rfl := Option.some.inj hf
  exact xr_iret C ko ⟨(Nat.le_of_ble_eq_true rfl), (Nat.le_of_ble_eq_true rfl)⟩ dX6_countSides_48
noncomputable def f_X6_countSides_5 (M : mm_M) (v0 : Option Nat) (v1 : Int32) (v2 : Option Nat) (v3 : Int32) (v4 : Int32) : Option ((Int32 × Int32) ⊕ (Int32)) :=
  (mm_fR M v0 7 0).bind fun x8 =>
  (mm_rc M x8 0).bind fun u11 =>
  (f_Jx4a65c_size_8abf5 M x8).bind fun x11 =>
  if x11 ≤ v4 then mm_mp (f_X6_countSides_47 M v3) else f_X6_countSides_17 M v0 v1 v2 v3 v4
set_option maxRecDepth 20000 in
theorem w_X6_countSides_5 {g : mm_c} (C : mm_ok g cX6_countSides "LessonCards$Learner" (some .int) "countSides" 5 5 113 0 0) {M : mm_M} {v0 : Option Nat} {v1 : Int32} {v2 : Option Nat} {v3 : Int32} {v4 : Int32} {res : (Int32 × Int32) ⊕ (Int32)} (hf : f_X6_countSides_5 M v0 v1 v2 v3 v4 = some res) (ko : (mm_o (h_X6_countSides_5 g M v0 v1 v2) (fun z => mm_q g 0 0 (some (mm_i z)) M)) res) : mm_X g 0 0 M 5 [(0, mm_r v0), (1, mm_i v1), (2, mm_r v2), (3, mm_i v3), (4, mm_i v4)] [] := by
  unfold f_X6_countSides_5 at hf
  refine xr_iload 7 4 C dX6_countSides_5 rfl rfl ?_
  refine xr_aload_n 8 0 C dX6_countSides_7 rfl rfl rfl ?_
  obtain ⟨x8, h8, hf⟩ := mm_bd_e hf
  refine xr_getR 11 C cf_X6_12 rfl h8 dX6_countSides_8 rfl ?_
  obtain ⟨u11, g11, hf⟩ := mm_bd_e hf
  obtain ⟨x11, h11, hf⟩ := mm_bd_e hf
  refine xr_callV 14 C [] cm_X6_31 (fun l G cy => c_Jx4a65c_size_8abf5 l G cy h11) g11 rfl rfl ⟨⟨Nat.le_of_ble_eq_true rfl, Nat.le_of_ble_eq_true rfl⟩, (Nat.le_of_ble_eq_true rfl), (Nat.le_of_ble_eq_true rfl)⟩ (Nat.le_of_ble_eq_true rfl) dX6_countSides_11 rfl ?_
  refine xr_icmp_ge 47 17 C dX6_countSides_14 (by decide) rfl (fun hc => ?_) (fun hc => ?_)
  · replace hf := (if_pos hc).symm.trans hf
    refine xr_sub [3] (lv2 := [(3, mm_i v3)]) rfl ?_
    obtain ⟨z, hf2, rfl⟩ := mm_mp_e hf
    clear hf
    have hf := hf2
    clear hf2
    exact w_X6_countSides_47 C hf ko
  · replace hf := (if_neg hc).symm.trans hf
    exact w_X6_countSides_17 C hf ko
noncomputable def f_X6_countSides_5w (M : mm_M) (v0 : Option Nat) (v1 : Int32) (v2 : Option Nat) (v3 : Int32) (v4 : Int32) : Option (Int32) := mm_w (fun x => f_X6_countSides_5 M v0 v1 v2 x.1 x.2) (v3, v4)
theorem l_X6_countSides_5 {g : mm_c} (C : mm_ok g cX6_countSides "LessonCards$Learner" (some .int) "countSides" 5 5 113 0 0) {M : mm_M} {v0 : Option Nat} {v1 : Int32} {v2 : Option Nat} {v3 : Int32} {v4 : Int32} {res : Int32} (hf : f_X6_countSides_5w M v0 v1 v2 v3 v4 = some res) (ko : (fun z => mm_q g 0 0 (some (mm_i z)) M) res) : mm_X g 0 0 M 5 [(0, mm_r v0), (1, mm_i v1), (2, mm_r v2), (3, mm_i v3), (4, mm_i v4)] [] :=
  mm_w_W (body := fun x => f_X6_countSides_5 M v0 v1 v2 x.1 x.2) (Wh := h_X6_countSides_5 g M v0 v1 v2) (ok := (fun z => mm_q g 0 0 (some (mm_i z)) M)) (x := (v3, v4)) (fun x r hb ho => w_X6_countSides_5 C hb ho) hf ko
noncomputable def f_X6_countSides_0 (M : mm_M) (v0 : Option Nat) (v1 : Int32) (v2 : Option Nat) : Option (Int32) :=
  f_X6_countSides_5w M v0 v1 v2 0 0
set_option maxRecDepth 20000 in
theorem w_X6_countSides_0 {g : mm_c} (C : mm_ok g cX6_countSides "LessonCards$Learner" (some .int) "countSides" 5 5 113 0 0) {M : mm_M} {v0 : Option Nat} {v1 : Int32} {v2 : Option Nat} {res : Int32} (hf : f_X6_countSides_0 M v0 v1 v2 = some res) (ko : (fun z => mm_q g 0 0 (some (mm_i z)) M) res) : mm_X g 0 0 M 0 [(0, mm_r v0), (1, mm_i v1), (2, mm_r v2)] [] := by
  unfold f_X6_countSides_0 at hf
  refine xr_iconst 1 C (v := 0) dX6_countSides_0 (by decide) rfl ?_
  refine xr_istore_n 2 C dX6_countSides_1 rfl (by decide) rfl [(3, mm_i 0), (0, mm_r v0), (1, mm_i v1), (2, mm_r v2)] rfl ?_
  refine xr_iconst 3 C (v := 0) dX6_countSides_2 (by decide) rfl ?_
  refine xr_istore 5 C dX6_countSides_3 (by decide) rfl [(4, mm_i 0), (3, mm_i 0), (0, mm_r v0), (1, mm_i v1), (2, mm_r v2)] rfl ?_
  refine xr_sub [2, 3, 4, 1, 0] (lv2 := [(0, mm_r v0), (1, mm_i v1), (2, mm_r v2), (3, mm_i 0), (4, mm_i 0)]) rfl ?_
  exact l_X6_countSides_5 C hf ko
noncomputable def f_X6_countSides (M : mm_M) (v0 : Option Nat) (v1 : Int32) (v2 : Option Nat) : Option (Int32) := f_X6_countSides_0 M v0 v1 v2
theorem c_X6_countSides (l : Launch) (G : va_G) (cy : Nat → ClassId) {M : mm_M} {v0 : Option Nat} {v1 : Int32} {v2 : Option Nat} {r : Int32} (hf : f_X6_countSides M v0 v1 v2 = some r) : mm_Met l yX6_countSides cX6_countSides 5 (some .int) 5 113 0 0 G cy [mm_r v0, mm_i v1, mm_r v2] M (some (mm_i r)) M :=
  mm_enter (by decide) (Nat.le_of_ble_eq_true rfl) (fun p e R s m args below meth c Q C hq => xr_sub [0, 1, 2] (lv2 := [(0, mm_r v0), (1, mm_i v1), (2, mm_r v2)]) rfl (w_X6_countSides_0 C hf hq))
noncomputable def f_X6_first_17 (M : mm_M) (s0 : Int32) : Option (Int32) :=
  some s0
set_option maxRecDepth 20000 in
theorem w_X6_first_17 {g : mm_c} (C : mm_ok g cX6_first "LessonCards$Learner" (some .int) "first" 1 0 0 0 0) {M : mm_M} {s0 : Int32} {res : Int32} (hf : f_X6_first_17 M s0 = some res) (ko : (fun z => mm_q g 0 0 (some (mm_i z)) M) res) : mm_X g 0 0 M 17 [] [mm_i s0] := by
  unfold f_X6_first_17 at hf
  obtain rfl := Option.some.inj hf
  exact xr_iret C ko ⟨(Nat.le_of_ble_eq_true rfl), (Nat.le_of_ble_eq_true rfl)⟩ dX6_first_17
noncomputable def f_X6_first_7 (M : mm_M) (v0 : Option Nat) : Option (Int32) :=
  (mm_fR M v0 7 1).bind fun x8 =>
  (mm_aI M x8 12 0).bind fun x12 =>
  f_X6_first_17 M x12
set_option maxRecDepth 20000 in
theorem w_X6_first_7 {g : mm_c} (C : mm_ok g cX6_first "LessonCards$Learner" (some .int) "first" 1 0 0 0 0) {M : mm_M} {v0 : Option Nat} {res : Int32} (hf : f_X6_first_7 M v0 = some res) (ko : (fun z => mm_q g 0 0 (some (mm_i z)) M) res) : mm_X g 0 0 M 7 [(0, mm_r v0)] [] := by
  unfold f_X6_first_7 at hf
  refine xr_aload_n 8 0 C dX6_first_7 rfl rfl rfl ?_
  obtain ⟨x8, h8, hf⟩ := mm_bd_e hf
  refine xr_getR 11 C cf_X6_18 rfl h8 dX6_first_8 rfl ?_
  refine xr_iconst 12 C (v := 0) dX6_first_11 (by decide) rfl ?_
  obtain ⟨x12, h12, hf⟩ := mm_bd_e hf
  refine xr_aldI 13 C h12 dX6_first_12 rfl ?_
  refine xr_goto 17 C dX6_first_13 (by decide) ?_
  refine xr_sub [] (lv2 := []) rfl ?_
  exact w_X6_first_17 C hf ko
noncomputable def f_X6_first_16 (M : mm_M) : Option (Int32) :=
  f_X6_first_17 M (-1)
set_option maxRecDepth 20000 in
theorem w_X6_first_16 {g : mm_c} (C : mm_ok g cX6_first "LessonCards$Learner" (some .int) "first" 1 0 0 0 0) {M : mm_M} {res : Int32} (hf : f_X6_first_16 M = some res) (ko : (fun z => mm_q g 0 0 (some (mm_i z)) M) res) : mm_X g 0 0 M 16 [] [] := by
  unfold f_X6_first_16 at hf
  refine xr_iconst 17 C (v := (-1)) dX6_first_16 (by decide) rfl ?_
  exact w_X6_first_17 C hf ko
noncomputable def f_X6_first_0 (M : mm_M) (v0 : Option Nat) : Option (Int32) :=
  (mm_fI M v0 7 2).bind fun x1 =>
  if x1 ≤ 0 then f_X6_first_16 M else f_X6_first_7 M v0
set_option maxRecDepth 20000 in
theorem w_X6_first_0 {g : mm_c} (C : mm_ok g cX6_first "LessonCards$Learner" (some .int) "first" 1 0 0 0 0) {M : mm_M} {v0 : Option Nat} {res : Int32} (hf : f_X6_first_0 M v0 = some res) (ko : (fun z => mm_q g 0 0 (some (mm_i z)) M) res) : mm_X g 0 0 M 0 [(0, mm_r v0)] [] := by
  unfold f_X6_first_0 at hf
  refine xr_aload_n 1 0 C dX6_first_0 rfl rfl rfl ?_
  obtain ⟨x1, h1, hf⟩ := mm_bd_e hf
  refine xr_getI 4 C cf_X6_51 rfl h1 dX6_first_1 rfl ?_
  refine xr_if_le 16 7 C dX6_first_4 (by decide) rfl (fun hc => ?_) (fun hc => ?_)
  · replace hf := (if_pos hc).symm.trans hf
    refine xr_sub [] (lv2 := []) rfl ?_
    exact w_X6_first_16 C hf ko
  · replace hf := (if_neg hc).symm.trans hf
    exact w_X6_first_7 C hf ko
noncomputable def f_X6_first (M : mm_M) (v0 : Option Nat) : Option (Int32) := f_X6_first_0 M v0
theorem c_X6_first (l : Launch) (G : va_G) (cy : Nat → ClassId) {M : mm_M} {v0 : Option Nat} {r : Int32} (hf : f_X6_first M v0 = some r) : mm_Met l yX6_first cX6_first 1 (some .int) 0 0 0 0 G cy [mm_r v0] M (some (mm_i r)) M :=
  mm_enter (by decide) (Nat.le_of_ble_eq_true rfl) (fun p e R s m args below meth c Q C hq => xr_sub [0] (lv2 := [(0, mm_r v0)]) rfl (w_X6_first_0 C hf hq))
noncomputable def f_X6_append_32 (M : mm_M) : Option (mm_M) :=
  some M
set_option maxRecDepth 20000 in
theorem w_X6_append_32 {g : mm_c} (C : mm_ok g cX6_append "LessonCards$Learner" none "append" 2 0 0 0 0) {M : mm_M} {res : mm_M} (hf : f_X6_append_32 M = some res) (ko : (fun z => mm_q g 0 0 none z) res) : mm_X g 0 0 M 32 [] [] := by
  unfold f_X6_append_32 at hf
  obtain rfl := Option.some.inj hf
  exact xr_vret C ko ⟨(Nat.le_of_ble_eq_true rfl), (Nat.le_of_ble_eq_true rfl)⟩ dX6_append_32
noncomputable def f_X6_append_12 (M : mm_M) (v0 : Option Nat) (v1 : Int32) : Option (mm_M) :=
  (mm_fR M v0 7 1).bind fun x13 =>
  (mm_fI M v0 7 2).bind fun x17 =>
  (mm_tI M x13 x17 v1).bind fun M21 =>
  (mm_fI M21 v0 7 2).bind fun x24 =>
  (mm_pI M21 v0 7 2 (x24 + 1)).bind fun M29 =>
  f_X6_append_32 M29
set_option maxRecDepth 20000 in
theorem w_X6_append_12 {g : mm_c} (C : mm_ok g cX6_append "LessonCards$Learner" none "append" 2 0 0 0 0) {M : mm_M} {v0 : Option Nat} {v1 : Int32} {res : mm_M} (hf : f_X6_append_12 M v0 v1 = some res) (ko : (fun z => mm_q g 0 0 none z) res) : mm_X g 0 0 M 12 [(0, mm_r v0), (1, mm_i v1)] [] := by
  unfold f_X6_append_12 at hf
  refine xr_aload_n 13 0 C dX6_append_12 rfl rfl rfl ?_
  obtain ⟨x13, h13, hf⟩ := mm_bd_e hf
  refine xr_getR 16 C cf_X6_18 rfl h13 dX6_append_13 rfl ?_
  refine xr_aload_n 17 0 C dX6_append_16 rfl rfl rfl ?_
  obtain ⟨x17, h17, hf⟩ := mm_bd_e hf
  refine xr_getI 20 C cf_X6_51 rfl h17 dX6_append_17 rfl ?_
  refine xr_iload_n 21 1 C dX6_append_20 rfl rfl rfl ?_
  obtain ⟨M21, h21, hf⟩ := mm_bd_e hf
  refine xr_astI 22 C h21 dX6_append_21 rfl ?_
  refine xr_aload_n 23 0 C dX6_append_22 rfl rfl rfl ?_
  refine xr_dup 24 C dX6_append_23 rfl rfl ?_
  obtain ⟨x24, h24, hf⟩ := mm_bd_e hf
  refine xr_getI 27 C cf_X6_51 rfl h24 dX6_append_24 rfl ?_
  refine xr_iconst 28 C (v := 1) dX6_append_27 (by decide) rfl ?_
  refine xr_iadd 29 C dX6_append_28 rfl ?_
  obtain ⟨M29, h29, hf⟩ := mm_bd_e hf
  refine xr_putI 32 C cf_X6_51 (fun h => by cases h) h29 dX6_append_29 rfl ?_
  refine xr_sub [] (lv2 := []) rfl ?_
  exact w_X6_append_32 C hf ko
noncomputable def f_X6_append_0 (M : mm_M) (v0 : Option Nat) (v1 : Int32) : Option (mm_M) :=
  (mm_fI M v0 7 2).bind fun x1 =>
  (mm_fR M v0 7 1).bind fun x5 =>
  (mm_ln M x5).bind fun x8 =>
  if x8 ≤ x1 then f_X6_append_32 M else f_X6_append_12 M v0 v1
set_option maxRecDepth 20000 in
theorem w_X6_append_0 {g : mm_c} (C : mm_ok g cX6_append "LessonCards$Learner" none "append" 2 0 0 0 0) {M : mm_M} {v0 : Option Nat} {v1 : Int32} {res : mm_M} (hf : f_X6_append_0 M v0 v1 = some res) (ko : (fun z => mm_q g 0 0 none z) res) : mm_X g 0 0 M 0 [(0, mm_r v0), (1, mm_i v1)] [] := by
  unfold f_X6_append_0 at hf
  refine xr_aload_n 1 0 C dX6_append_0 rfl rfl rfl ?_
  obtain ⟨x1, h1, hf⟩ := mm_bd_e hf
  refine xr_getI 4 C cf_X6_51 rfl h1 dX6_append_1 rfl ?_
  refine xr_aload_n 5 0 C dX6_append_4 rfl rfl rfl ?_
  obtain ⟨x5, h5, hf⟩ := mm_bd_e hf
  refine xr_getR 8 C cf_X6_18 rfl h5 dX6_append_5 rfl ?_
  obtain ⟨x8, h8, hf⟩ := mm_bd_e hf
  refine xr_alen 9 C h8 dX6_append_8 rfl ?_
  refine xr_icmp_ge 32 12 C dX6_append_9 (by decide) rfl (fun hc => ?_) (fun hc => ?_)
  · replace hf := (if_pos hc).symm.trans hf
    refine xr_sub [] (lv2 := []) rfl ?_
    exact w_X6_append_32 C hf ko
  · replace hf := (if_neg hc).symm.trans hf
    exact w_X6_append_12 C hf ko
noncomputable def f_X6_append (M : mm_M) (v0 : Option Nat) (v1 : Int32) : Option (mm_M) := f_X6_append_0 M v0 v1
theorem c_X6_append (l : Launch) (G : va_G) (cy : Nat → ClassId) {M : mm_M} {v0 : Option Nat} {v1 : Int32} {M1 : mm_M} (hf : f_X6_append M v0 v1 = some M1) : mm_Met l yX6_append cX6_append 2 none 0 0 0 0 G cy [mm_r v0, mm_i v1] M none M1 :=
  mm_enter (by decide) (Nat.le_of_ble_eq_true rfl) (fun p e R s m args below meth c Q C hq => xr_sub [0, 1] (lv2 := [(0, mm_r v0), (1, mm_i v1)]) rfl (w_X6_append_0 C hf hq))
def h_X6_drop_4 (g : mm_c) (v0 : Option Nat) (v1 : Int32) : (mm_M × Int32 × Int32) → Prop := fun x => mm_X g 0 0 x.1 4 [(0, mm_r v0), (1, mm_i v1), (2, mm_i x.2.1), (3, mm_i x.2.2)] []
noncomputable def f_X6_drop_46 (M : mm_M) (v0 : Option Nat) (v1 : Int32) (v2 : Int32) (v3 : Int32) : Option ((mm_M × Int32 × Int32) ⊕ (mm_M)) :=
  some (.inl (M, v2, (v3 + 1)))
set_option maxRecDepth 20000 in
theorem w_X6_drop_46 {g : mm_c} (C : mm_ok g cX6_drop "LessonCards$Learner" none "drop" 4 0 0 0 0) {M : mm_M} {v0 : Option Nat} {v1 : Int32} {v2 : Int32} {v3 : Int32} {res : (mm_M × Int32 × Int32) ⊕ (mm_M)} (hf : f_X6_drop_46 M v0 v1 v2 v3 = some res) (ko : (mm_o (h_X6_drop_4 g v0 v1) (fun z => mm_q g 0 0 none z)) res) : mm_X g 0 0 M 46 [(0, mm_r v0), (1, mm_i v1), (2, mm_i v2), (3, mm_i v3)] [] := by
  unfold f_X6_drop_46 at hf
  refine xr_iinc 49 3 C dX6_drop_46 rfl (by decide) (v := 1) (by decide) rfl [(3, mm_i (v3 + 1)), (0, mm_r v0), (1, mm_i v1), (2, mm_i v2)] rfl ?_
  refine xr_goto 4 C dX6_drop_49 (by decide) ?_
  refine xr_sub [1, 2, 3, 0] (lv2 := [(0, mm_r v0), (1, mm_i v1), (2, mm_i v2), (3, mm_i (v3 + 1))]) rfl ?_
  obtain rfl := Option.some.inj hf
  exact ko
noncomputable def f_X6_drop_31 (M : mm_M) (v0 : Option Nat) (v1 : Int32) (v2 : Int32) (v3 : Int32) : Option ((mm_M × Int32 × Int32) ⊕ (mm_M)) :=
  (mm_fR M v0 7 1).bind fun x32 =>
  (mm_fR M v0 7 1).bind fun x37 =>
  (mm_aI M x37 12 v3).bind fun x41 =>
  (mm_tI M x32 v2 x41).bind fun M42 =>
  f_X6_drop_46 M42 v0 v1 (v2 + 1) v3
set_option maxRecDepth 20000 in
theorem w_X6_drop_31 {g : mm_c} (C : mm_ok g cX6_drop "LessonCards$Learner" none "drop" 4 0 0 0 0) {M : mm_M} {v0 : Option Nat} {v1 : Int32} {v2 : Int32} {v3 : Int32} {res : (mm_M × Int32 × Int32) ⊕ (mm_M)} (hf : f_X6_drop_31 M v0 v1 v2 v3 = some res) (ko : (mm_o (h_X6_drop_4 g v0 v1) (fun z => mm_q g 0 0 none z)) res) : mm_X g 0 0 M 31 [(0, mm_r v0), (1, mm_i v1), (2, mm_i v2), (3, mm_i v3)] [] := by
  unfold f_X6_drop_31 at hf
  refine xr_aload_n 32 0 C dX6_drop_31 rfl rfl rfl ?_
  obtain ⟨x32, h32, hf⟩ := mm_bd_e hf
  refine xr_getR 35 C cf_X6_18 rfl h32 dX6_drop_32 rfl ?_
  refine xr_iload_n 36 2 C dX6_drop_35 rfl rfl rfl ?_
  refine xr_aload_n 37 0 C dX6_drop_36 rfl rfl rfl ?_
  obtain ⟨x37, h37, hf⟩ := mm_bd_e hf
  refine xr_getR 40 C cf_X6_18 rfl h37 dX6_drop_37 rfl ?_
  refine xr_iload_n 41 3 C dX6_drop_40 rfl rfl rfl ?_
  obtain ⟨x41, h41, hf⟩ := mm_bd_e hf
  refine xr_aldI 42 C h41 dX6_drop_41 rfl ?_
  obtain ⟨M42, h42, hf⟩ := mm_bd_e hf
  refine xr_astI 43 C h42 dX6_drop_42 rfl ?_
  refine xr_iinc 46 2 C dX6_drop_43 rfl (by decide) (v := 1) (by decide) rfl [(2, mm_i (v2 + 1)), (0, mm_r v0), (1, mm_i v1), (3, mm_i v3)] rfl ?_
  refine xr_sub [1, 2, 0, 3] (lv2 := [(0, mm_r v0), (1, mm_i v1), (2, mm_i (v2 + 1)), (3, mm_i v3)]) rfl ?_
  exact w_X6_drop_46 C hf ko
noncomputable def f_X6_drop_21 (M : mm_M) (v0 : Option Nat) (v1 : Int32) (v2 : Int32) (v3 : Int32) : Option ((mm_M × Int32 × Int32) ⊕ (mm_M)) :=
  (mm_fR M v0 7 1).bind fun x22 =>
  (mm_aI M x22 12 v3).bind fun x26 =>
  if x26 = v1 then f_X6_drop_46 M v0 v1 v2 v3 else f_X6_drop_31 M v0 v1 v2 v3
set_option maxRecDepth 20000 in
theorem w_X6_drop_21 {g : mm_c} (C : mm_ok g cX6_drop "LessonCards$Learner" none "drop" 4 0 0 0 0) {M : mm_M} {v0 : Option Nat} {v1 : Int32} {v2 : Int32} {v3 : Int32} {res : (mm_M × Int32 × Int32) ⊕ (mm_M)} (hf : f_X6_drop_21 M v0 v1 v2 v3 = some res) (ko : (mm_o (h_X6_drop_4 g v0 v1) (fun z => mm_q g 0 0 none z)) res) : mm_X g 0 0 M 21 [(0, mm_r v0), (1, mm_i v1), (2, mm_i v2), (3, mm_i v3)] [] := by
  unfold f_X6_drop_21 at hf
  refine xr_aload_n 22 0 C dX6_drop_21 rfl rfl rfl ?_
  obtain ⟨x22, h22, hf⟩ := mm_bd_e hf
  refine xr_getR 25 C cf_X6_18 rfl h22 dX6_drop_22 rfl ?_
  refine xr_iload_n 26 3 C dX6_drop_25 rfl rfl rfl ?_
  obtain ⟨x26, h26, hf⟩ := mm_bd_e hf
  refine xr_aldI 27 C h26 dX6_drop_26 rfl ?_
  refine xr_iload_n 28 1 C dX6_drop_27 rfl rfl rfl ?_
  refine xr_icmp_eq 46 31 C dX6_drop_28 (by decide) rfl (fun hc => ?_) (fun hc => ?_)
  · replace hf := (if_pos hc).symm.trans hf
    exact w_X6_drop_46 C hf ko
  · replace hf := (if_neg hc).symm.trans hf
    exact w_X6_drop_31 C hf ko
noncomputable def f_X6_drop_52 (M : mm_M) (v0 : Option Nat) (v2 : Int32) : Option (mm_M) :=
  (mm_pI M v0 7 2 v2).bind fun M54 =>
  some M54
set_option maxRecDepth 20000 in
theorem w_X6_drop_52 {g : mm_c} (C : mm_ok g cX6_drop "LessonCards$Learner" none "drop" 4 0 0 0 0) {M : mm_M} {v0 : Option Nat} {v2 : Int32} {res : mm_M} (hf : f_X6_drop_52 M v0 v2 = some res) (ko : (fun z => mm_q g 0 0 none z) res) : mm_X g 0 0 M 52 [(0, mm_r v0), (2, mm_i v2)] [] := by
  unfold f_X6_drop_52 at hf
  refine xr_aload_n 53 0 C dX6_drop_52 rfl rfl rfl ?_
  refine xr_iload_n 54 1 C dX6_drop_53 rfl rfl rfl ?_
  obtain ⟨M54, h54, hf⟩ := mm_bd_e hf
  refine xr_putI 57 C cf_X6_51 (fun h => by cases h) h54 dX6_drop_54 rfl ?_
  obtain rfl := Option.some.inj hf
  exact xr_vret C ko ⟨(Nat.le_of_ble_eq_true rfl), (Nat.le_of_ble_eq_true rfl)⟩ dX6_drop_57
noncomputable def f_X6_drop_12 (M : mm_M) (v0 : Option Nat) (v1 : Int32) (v2 : Int32) (v3 : Int32) : Option ((mm_M × Int32 × Int32) ⊕ (mm_M)) :=
  (mm_fR M v0 7 1).bind fun x14 =>
  (mm_ln M x14).bind fun x17 =>
  if x17 ≤ v3 then mm_mp (f_X6_drop_52 M v0 v2) else f_X6_drop_21 M v0 v1 v2 v3
set_option maxRecDepth 20000 in
theorem w_X6_drop_12 {g : mm_c} (C : mm_ok g cX6_drop "LessonCards$Learner" none "drop" 4 0 0 0 0) {M : mm_M} {v0 : Option Nat} {v1 : Int32} {v2 : Int32} {v3 : Int32} {res : (mm_M × Int32 × Int32) ⊕ (mm_M)} (hf : f_X6_drop_12 M v0 v1 v2 v3 = some res) (ko : (mm_o (h_X6_drop_4 g v0 v1) (fun z => mm_q g 0 0 none z)) res) : mm_X g 0 0 M 12 [(0, mm_r v0), (1, mm_i v1), (2, mm_i v2), (3, mm_i v3)] [] := by
  unfold f_X6_drop_12 at hf
  refine xr_iload_n 13 3 C dX6_drop_12 rfl rfl rfl ?_
  refine xr_aload_n 14 0 C dX6_drop_13 rfl rfl rfl ?_
  obtain ⟨x14, h14, hf⟩ := mm_bd_e hf
  refine xr_getR 17 C cf_X6_18 rfl h14 dX6_drop_14 rfl ?_
  obtain ⟨x17, h17, hf⟩ := mm_bd_e hf
  refine xr_alen 18 C h17 dX6_drop_17 rfl ?_
  refine xr_icmp_ge 52 21 C dX6_drop_18 (by decide) rfl (fun hc => ?_) (fun hc => ?_)
  · replace hf := (if_pos hc).symm.trans hf
    refine xr_sub [0, 2] (lv2 := [(0, mm_r v0), (2, mm_i v2)]) rfl ?_
    obtain ⟨z, hf2, rfl⟩ := mm_mp_e hf
    clear hf
    have hf := hf2
    clear hf2
    exact w_X6_drop_52 C hf ko
  · replace hf := (if_neg hc).symm.trans hf
    exact w_X6_drop_21 C hf ko
noncomputable def f_X6_drop_4 (M : mm_M) (v0 : Option Nat) (v1 : Int32) (v2 : Int32) (v3 : Int32) : Option ((mm_M × Int32 × Int32) ⊕ (mm_M)) :=
  (mm_fI M v0 7 2).bind fun x6 =>
  if x6 ≤ v3 then mm_mp (f_X6_drop_52 M v0 v2) else f_X6_drop_12 M v0 v1 v2 v3
set_option maxRecDepth 20000 in
theorem w_X6_drop_4 {g : mm_c} (C : mm_ok g cX6_drop "LessonCards$Learner" none "drop" 4 0 0 0 0) {M : mm_M} {v0 : Option Nat} {v1 : Int32} {v2 : Int32} {v3 : Int32} {res : (mm_M × Int32 × Int32) ⊕ (mm_M)} (hf : f_X6_drop_4 M v0 v1 v2 v3 = some res) (ko : (mm_o (h_X6_drop_4 g v0 v1) (fun z => mm_q g 0 0 none z)) res) : mm_X g 0 0 M 4 [(0, mm_r v0), (1, mm_i v1), (2, mm_i v2), (3, mm_i v3)] [] := by
  unfold f_X6_drop_4 at hf
  refine xr_iload_n 5 3 C dX6_drop_4 rfl rfl rfl ?_
  refine xr_aload_n 6 0 C dX6_drop_5 rfl rfl rfl ?_
  obtain ⟨x6, h6, hf⟩ := mm_bd_e hf
  refine xr_getI 9 C cf_X6_51 rfl h6 dX6_drop_6 rfl ?_
  refine xr_icmp_ge 52 12 C dX6_drop_9 (by decide) rfl (fun hc => ?_) (fun hc => ?_)
  · replace hf := (if_pos hc).symm.trans hf
    refine xr_sub [0, 2] (lv2 := [(0, mm_r v0), (2, mm_i v2)]) rfl ?_
    obtain ⟨z, hf2, rfl⟩ := mm_mp_e hf
    clear hf
    have hf := hf2
    clear hf2
    exact w_X6_drop_52 C hf ko
  · replace hf := (if_neg hc).symm.trans hf
    exact w_X6_drop_12 C hf ko
noncomputable def f_X6_drop_4w (M : mm_M) (v0 : Option Nat) (v1 : Int32) (v2 : Int32) (v3 : Int32) : Option (mm_M) := mm_w (fun x => f_X6_drop_4 x.1 v0 v1 x.2.1 x.2.2) (M, v2, v3)
theorem l_X6_drop_4 {g : mm_c} (C : mm_ok g cX6_drop "LessonCards$Learner" none "drop" 4 0 0 0 0) {M : mm_M} {v0 : Option Nat} {v1 : Int32} {v2 : Int32} {v3 : Int32} {res : mm_M} (hf : f_X6_drop_4w M v0 v1 v2 v3 = some res) (ko : (fun z => mm_q g 0 0 none z) res) : mm_X g 0 0 M 4 [(0, mm_r v0), (1, mm_i v1), (2, mm_i v2), (3, mm_i v3)] [] :=
  mm_w_W (body := fun x => f_X6_drop_4 x.1 v0 v1 x.2.1 x.2.2) (Wh := h_X6_drop_4 g v0 v1) (ok := (fun z => mm_q g 0 0 none z)) (x := (M, v2, v3)) (fun x r hb ho => w_X6_drop_4 C hb ho) hf ko
noncomputable def f_X6_drop_0 (M : mm_M) (v0 : Option Nat) (v1 : Int32) : Option (mm_M) :=
  f_X6_drop_4w M v0 v1 0 0
set_option maxRecDepth 20000 in
theorem w_X6_drop_0 {g : mm_c} (C : mm_ok g cX6_drop "LessonCards$Learner" none "drop" 4 0 0 0 0) {M : mm_M} {v0 : Option Nat} {v1 : Int32} {res : mm_M} (hf : f_X6_drop_0 M v0 v1 = some res) (ko : (fun z => mm_q g 0 0 none z) res) : mm_X g 0 0 M 0 [(0, mm_r v0), (1, mm_i v1)] [] := by
  unfold f_X6_drop_0 at hf
  refine xr_iconst 1 C (v := 0) dX6_drop_0 (by decide) rfl ?_
  refine xr_istore_n 2 C dX6_drop_1 rfl (by decide) rfl [(2, mm_i 0), (0, mm_r v0), (1, mm_i v1)] rfl ?_
  refine xr_iconst 3 C (v := 0) dX6_drop_2 (by decide) rfl ?_
  refine xr_istore_n 4 C dX6_drop_3 rfl (by decide) rfl [(3, mm_i 0), (2, mm_i 0), (0, mm_r v0), (1, mm_i v1)] rfl ?_
  refine xr_sub [2, 3, 1, 0] (lv2 := [(0, mm_r v0), (1, mm_i v1), (2, mm_i 0), (3, mm_i 0)]) rfl ?_
  exact l_X6_drop_4 C hf ko
noncomputable def f_X6_drop (M : mm_M) (v0 : Option Nat) (v1 : Int32) : Option (mm_M) := f_X6_drop_0 M v0 v1
theorem c_X6_drop (l : Launch) (G : va_G) (cy : Nat → ClassId) {M : mm_M} {v0 : Option Nat} {v1 : Int32} {M1 : mm_M} (hf : f_X6_drop M v0 v1 = some M1) : mm_Met l yX6_drop cX6_drop 4 none 0 0 0 0 G cy [mm_r v0, mm_i v1] M none M1 :=
  mm_enter (by decide) (Nat.le_of_ble_eq_true rfl) (fun p e R s m args below meth c Q C hq => xr_sub [0, 1] (lv2 := [(0, mm_r v0), (1, mm_i v1)]) rfl (w_X6_drop_0 C hf hq))
noncomputable def f_X6_dropFirst_0 (M : mm_M) (v0 : Option Nat) : Option (mm_M) :=
  (mm_rc M v0 7).bind fun u2 =>
  (f_X6_first M v0).bind fun x2 =>
  (mm_rc M v0 7).bind fun u5 =>
  (f_X6_drop M v0 x2).bind fun M5 =>
  some M5
set_option maxRecDepth 20000 in
theorem w_X6_dropFirst_0 {g : mm_c} (C : mm_ok g cX6_dropFirst "LessonCards$Learner" none "dropFirst" 1 1 23 0 0) {M : mm_M} {v0 : Option Nat} {res : mm_M} (hf : f_X6_dropFirst_0 M v0 = some res) (ko : (fun z => mm_q g 0 0 none z) res) : mm_X g 0 0 M 0 [(0, mm_r v0)] [] := by
  unfold f_X6_dropFirst_0 at hf
  refine xr_aload_n 1 0 C dX6_dropFirst_0 rfl rfl rfl ?_
  refine xr_aload_n 2 0 C dX6_dropFirst_1 rfl rfl rfl ?_
  obtain ⟨u2, g2, hf⟩ := mm_bd_e hf
  obtain ⟨x2, h2, hf⟩ := mm_bd_e hf
  refine xr_callV 5 C [] cm_X6_72 (fun l G cy => c_X6_first l G cy h2) g2 rfl rfl ⟨⟨Nat.le_of_ble_eq_true rfl, Nat.le_of_ble_eq_true rfl⟩, (Nat.le_of_ble_eq_true rfl), (Nat.le_of_ble_eq_true rfl)⟩ (Nat.le_of_ble_eq_true rfl) dX6_dropFirst_2 rfl ?_
  obtain ⟨u5, g5, hf⟩ := mm_bd_e hf
  obtain ⟨M5, h5, hf⟩ := mm_bd_e hf
  refine xr_callV 8 C [mm_i x2] cm_X6_75 (fun l G cy => c_X6_drop l G cy h5) g5 rfl rfl ⟨⟨Nat.le_of_ble_eq_true rfl, Nat.le_of_ble_eq_true rfl⟩, (Nat.le_of_ble_eq_true rfl), (Nat.le_of_ble_eq_true rfl)⟩ (Nat.le_of_ble_eq_true rfl) dX6_dropFirst_5 rfl ?_
  obtain rfl := Option.some.inj hf
  exact xr_vret C ko ⟨(Nat.le_of_ble_eq_true rfl), (Nat.le_of_ble_eq_true rfl)⟩ dX6_dropFirst_8
noncomputable def f_X6_dropFirst (M : mm_M) (v0 : Option Nat) : Option (mm_M) := f_X6_dropFirst_0 M v0
theorem c_X6_dropFirst (l : Launch) (G : va_G) (cy : Nat → ClassId) {M : mm_M} {v0 : Option Nat} {M1 : mm_M} (hf : f_X6_dropFirst M v0 = some M1) : mm_Met l yX6_dropFirst cX6_dropFirst 1 none 1 23 0 0 G cy [mm_r v0] M none M1 :=
  mm_enter (by decide) (Nat.le_of_ble_eq_true rfl) (fun p e R s m args below meth c Q C hq => xr_sub [0] (lv2 := [(0, mm_r v0)]) rfl (w_X6_dropFirst_0 C hf hq))
def h_X6_hasCard_2 (g : mm_c) (M : mm_M) (v0 : Option Nat) (v1 : Int32) : Int32 → Prop := fun x => mm_X g 0 0 M 2 [(0, mm_r v0), (1, mm_i v1), (2, mm_i x)] []
noncomputable def f_X6_hasCard_31 (M : mm_M) : Option (Int32) :=
  some 1
set_option maxRecDepth 20000 in
theorem w_X6_hasCard_31 {g : mm_c} (C : mm_ok g cX6_hasCard "LessonCards$Learner" (some .boolean) "hasCard" 3 0 0 0 0) {M : mm_M} {res : Int32} (hf : f_X6_hasCard_31 M = some res) (ko : (fun z => mm_q g 0 0 (some (mm_i z)) M) res) : mm_X g 0 0 M 31 [] [] := by
  unfold f_X6_hasCard_31 at hf
  refine xr_iconst 32 C (v := 1) dX6_hasCard_31 (by decide) rfl ?_
  obtain rfl := Option.some.inj hf
  exact xr_zret C (by decide) ko ⟨(Nat.le_of_ble_eq_true rfl), (Nat.le_of_ble_eq_true rfl)⟩ dX6_hasCard_32
noncomputable def f_X6_hasCard_33 (M : mm_M) (v0 : Option Nat) (v1 : Int32) (v2 : Int32) : Option (Int32 ⊕ (Int32)) :=
  some (.inl (v2 + 1))
set_option maxRecDepth 20000 in
theorem w_X6_hasCard_33 {g : mm_c} (C : mm_ok g cX6_hasCard "LessonCards$Learner" (some .boolean) "hasCard" 3 0 0 0 0) {M : mm_M} {v0 : Option Nat} {v1 : Int32} {v2 : Int32} {res : Int32 ⊕ (Int32)} (hf : f_X6_hasCard_33 M v0 v1 v2 = some res) (ko : (mm_o (h_X6_hasCard_2 g M v0 v1) (fun z => mm_q g 0 0 (some (mm_i z)) M)) res) : mm_X g 0 0 M 33 [(0, mm_r v0), (1, mm_i v1), (2, mm_i v2)] [] := by
  unfold f_X6_hasCard_33 at hf
  refine xr_iinc 36 2 C dX6_hasCard_33 rfl (by decide) (v := 1) (by decide) rfl [(2, mm_i (v2 + 1)), (0, mm_r v0), (1, mm_i v1)] rfl ?_
  refine xr_goto 2 C dX6_hasCard_36 (by decide) ?_
  refine xr_sub [1, 2, 0] (lv2 := [(0, mm_r v0), (1, mm_i v1), (2, mm_i (v2 + 1))]) rfl ?_
  obtain rfl := Option.some.inj hf
  exact ko
noncomputable def f_X6_hasCard_19 (M : mm_M) (v0 : Option Nat) (v1 : Int32) (v2 : Int32) : Option (Int32 ⊕ (Int32)) :=
  (mm_fR M v0 7 1).bind fun x20 =>
  (mm_aI M x20 12 v2).bind fun x24 =>
  if (x24 / 4) = v1 then mm_mp (f_X6_hasCard_31 M) else f_X6_hasCard_33 M v0 v1 v2
set_option maxRecDepth 20000 in
theorem w_X6_hasCard_19 {g : mm_c} (C : mm_ok g cX6_hasCard "LessonCards$Learner" (some .boolean) "hasCard" 3 0 0 0 0) {M : mm_M} {v0 : Option Nat} {v1 : Int32} {v2 : Int32} {res : Int32 ⊕ (Int32)} (hf : f_X6_hasCard_19 M v0 v1 v2 = some res) (ko : (mm_o (h_X6_hasCard_2 g M v0 v1) (fun z => mm_q g 0 0 (some (mm_i z)) M)) res) : mm_X g 0 0 M 19 [(0, mm_r v0), (1, mm_i v1), (2, mm_i v2)] [] := by
  unfold f_X6_hasCard_19 at hf
  refine xr_aload_n 20 0 C dX6_hasCard_19 rfl rfl rfl ?_
  obtain ⟨x20, h20, hf⟩ := mm_bd_e hf
  refine xr_getR 23 C cf_X6_18 rfl h20 dX6_hasCard_20 rfl ?_
  refine xr_iload_n 24 2 C dX6_hasCard_23 rfl rfl rfl ?_
  obtain ⟨x24, h24, hf⟩ := mm_bd_e hf
  refine xr_aldI 25 C h24 dX6_hasCard_24 rfl ?_
  refine xr_iconst 26 C (v := 4) dX6_hasCard_25 (by decide) rfl ?_
  refine xr_idiv 27 C dX6_hasCard_26 (by decide) rfl ?_
  refine xr_iload_n 28 1 C dX6_hasCard_27 rfl rfl rfl ?_
  refine xr_icmp_ne 33 31 C dX6_hasCard_28 (by decide) rfl (fun hc => ?_) (fun hc => ?_)
  · replace hf := (if_neg hc).symm.trans hf
    exact w_X6_hasCard_33 C hf ko
  · replace hf := (if_pos hc).symm.trans hf
    refine xr_sub [] (lv2 := []) rfl ?_
    obtain ⟨z, hf2, rfl⟩ := mm_mp_e hf
    clear hf
    have hf := hf2
    clear hf2
    exact w_X6_hasCard_31 C hf ko
noncomputable def f_X6_hasCard_39 (M : mm_M) : Option (Int32) :=
  some 0
set_option maxRecDepth 20000 in
theorem w_X6_hasCard_39 {g : mm_c} (C : mm_ok g cX6_hasCard "LessonCards$Learner" (some .boolean) "hasCard" 3 0 0 0 0) {M : mm_M} {res : Int32} (hf : f_X6_hasCard_39 M = some res) (ko : (fun z => mm_q g 0 0 (some (mm_i z)) M) res) : mm_X g 0 0 M 39 [] [] := by
  unfold f_X6_hasCard_39 at hf
  refine xr_iconst 40 C (v := 0) dX6_hasCard_39 (by decide) rfl ?_
  obtain rfl := Option.some.inj hf
  exact xr_zret C (by decide) ko ⟨(Nat.le_of_ble_eq_true rfl), (Nat.le_of_ble_eq_true rfl)⟩ dX6_hasCard_40
noncomputable def f_X6_hasCard_10 (M : mm_M) (v0 : Option Nat) (v1 : Int32) (v2 : Int32) : Option (Int32 ⊕ (Int32)) :=
  (mm_fR M v0 7 1).bind fun x12 =>
  (mm_ln M x12).bind fun x15 =>
  if x15 ≤ v2 then mm_mp (f_X6_hasCard_39 M) else f_X6_hasCard_19 M v0 v1 v2
set_option maxRecDepth 20000 in
theorem w_X6_hasCard_10 {g : mm_c} (C : mm_ok g cX6_hasCard "LessonCards$Learner" (some .boolean) "hasCard" 3 0 0 0 0) {M : mm_M} {v0 : Option Nat} {v1 : Int32} {v2 : Int32} {res : Int32 ⊕ (Int32)} (hf : f_X6_hasCard_10 M v0 v1 v2 = some res) (ko : (mm_o (h_X6_hasCard_2 g M v0 v1) (fun z => mm_q g 0 0 (some (mm_i z)) M)) res) : mm_X g 0 0 M 10 [(0, mm_r v0), (1, mm_i v1), (2, mm_i v2)] [] := by
  unfold f_X6_hasCard_10 at hf
  refine xr_iload_n 11 2 C dX6_hasCard_10 rfl rfl rfl ?_
  refine xr_aload_n 12 0 C dX6_hasCard_11 rfl rfl rfl ?_
  obtain ⟨x12, h12, hf⟩ := mm_bd_e hf
  refine xr_getR 15 C cf_X6_18 rfl h12 dX6_hasCard_12 rfl ?_
  obtain ⟨x15, h15, hf⟩ := mm_bd_e hf
  refine xr_alen 16 C h15 dX6_hasCard_15 rfl ?_
  refine xr_icmp_ge 39 19 C dX6_hasCard_16 (by decide) rfl (fun hc => ?_) (fun hc => ?_)
  · replace hf := (if_pos hc).symm.trans hf
    refine xr_sub [] (lv2 := []) rfl ?_
    obtain ⟨z, hf2, rfl⟩ := mm_mp_e hf
    clear hf
    have hf := hf2
    clear hf2
    exact w_X6_hasCard_39 C hf ko
  · replace hf := (if_neg hc).symm.trans hf
    exact w_X6_hasCard_19 C hf ko
noncomputable def f_X6_hasCard_2 (M : mm_M) (v0 : Option Nat) (v1 : Int32) (v2 : Int32) : Option (Int32 ⊕ (Int32)) :=
  (mm_fI M v0 7 2).bind fun x4 =>
  if x4 ≤ v2 then mm_mp (f_X6_hasCard_39 M) else f_X6_hasCard_10 M v0 v1 v2
set_option maxRecDepth 20000 in
theorem w_X6_hasCard_2 {g : mm_c} (C : mm_ok g cX6_hasCard "LessonCards$Learner" (some .boolean) "hasCard" 3 0 0 0 0) {M : mm_M} {v0 : Option Nat} {v1 : Int32} {v2 : Int32} {res : Int32 ⊕ (Int32)} (hf : f_X6_hasCard_2 M v0 v1 v2 = some res) (ko : (mm_o (h_X6_hasCard_2 g M v0 v1) (fun z => mm_q g 0 0 (some (mm_i z)) M)) res) : mm_X g 0 0 M 2 [(0, mm_r v0), (1, mm_i v1), (2, mm_i v2)] [] := by
  unfold f_X6_hasCard_2 at hf
  refine xr_iload_n 3 2 C dX6_hasCard_2 rfl rfl rfl ?_
  refine xr_aload_n 4 0 C dX6_hasCard_3 rfl rfl rfl ?_
  obtain ⟨x4, h4, hf⟩ := mm_bd_e hf
  refine xr_getI 7 C cf_X6_51 rfl h4 dX6_hasCard_4 rfl ?_
  refine xr_icmp_ge 39 10 C dX6_hasCard_7 (by decide) rfl (fun hc => ?_) (fun hc => ?_)
  · replace hf := (if_pos hc).symm.trans hf
    refine xr_sub [] (lv2 := []) rfl ?_
    obtain ⟨z, hf2, rfl⟩ := mm_mp_e hf
    clear hf
    have hf := hf2
    clear hf2
    exact w_X6_hasCard_39 C hf ko
  · replace hf := (if_neg hc).symm.trans hf
    exact w_X6_hasCard_10 C hf ko
noncomputable def f_X6_hasCard_2w (M : mm_M) (v0 : Option Nat) (v1 : Int32) (v2 : Int32) : Option (Int32) := mm_w (fun x => f_X6_hasCard_2 M v0 v1 x) v2
theorem l_X6_hasCard_2 {g : mm_c} (C : mm_ok g cX6_hasCard "LessonCards$Learner" (some .boolean) "hasCard" 3 0 0 0 0) {M : mm_M} {v0 : Option Nat} {v1 : Int32} {v2 : Int32} {res : Int32} (hf : f_X6_hasCard_2w M v0 v1 v2 = some res) (ko : (fun z => mm_q g 0 0 (some (mm_i z)) M) res) : mm_X g 0 0 M 2 [(0, mm_r v0), (1, mm_i v1), (2, mm_i v2)] [] :=
  mm_w_W (body := fun x => f_X6_hasCard_2 M v0 v1 x) (Wh := h_X6_hasCard_2 g M v0 v1) (ok := (fun z => mm_q g 0 0 (some (mm_i z)) M)) (x := v2) (fun x r hb ho => w_X6_hasCard_2 C hb ho) hf ko
noncomputable def f_X6_hasCard_0 (M : mm_M) (v0 : Option Nat) (v1 : Int32) : Option (Int32) :=
  f_X6_hasCard_2w M v0 v1 0
set_option maxRecDepth 20000 in
theorem w_X6_hasCard_0 {g : mm_c} (C : mm_ok g cX6_hasCard "LessonCards$Learner" (some .boolean) "hasCard" 3 0 0 0 0) {M : mm_M} {v0 : Option Nat} {v1 : Int32} {res : Int32} (hf : f_X6_hasCard_0 M v0 v1 = some res) (ko : (fun z => mm_q g 0 0 (some (mm_i z)) M) res) : mm_X g 0 0 M 0 [(0, mm_r v0), (1, mm_i v1)] [] := by
  unfold f_X6_hasCard_0 at hf
  refine xr_iconst 1 C (v := 0) dX6_hasCard_0 (by decide) rfl ?_
  refine xr_istore_n 2 C dX6_hasCard_1 rfl (by decide) rfl [(2, mm_i 0), (0, mm_r v0), (1, mm_i v1)] rfl ?_
  refine xr_sub [1, 2, 0] (lv2 := [(0, mm_r v0), (1, mm_i v1), (2, mm_i 0)]) rfl ?_
  exact l_X6_hasCard_2 C hf ko
noncomputable def f_X6_hasCard (M : mm_M) (v0 : Option Nat) (v1 : Int32) : Option (Int32) := f_X6_hasCard_0 M v0 v1
theorem c_X6_hasCard (l : Launch) (G : va_G) (cy : Nat → ClassId) {M : mm_M} {v0 : Option Nat} {v1 : Int32} {r : Int32} (hf : f_X6_hasCard M v0 v1 = some r) : mm_Met l yX6_hasCard cX6_hasCard 3 (some .boolean) 0 0 0 0 G cy [mm_r v0, mm_i v1] M (some (mm_i r)) M :=
  mm_enter (by decide) (Nat.le_of_ble_eq_true rfl) (fun p e R s m args below meth c Q C hq => xr_sub [0, 1] (lv2 := [(0, mm_r v0), (1, mm_i v1)]) rfl (w_X6_hasCard_0 C hf hq))
noncomputable def f_X9_placeOf_0 (M : mm_M) (v0 : Int32) (v1 : Int32) : Option (Int32) :=
  some ((4 * v0) + v1)
set_option maxRecDepth 20000 in
theorem w_X9_placeOf_0 {g : mm_c} (C : mm_ok g cX9_placeOf "LessonCards" (some .int) "placeOf" 2 0 0 0 0) {M : mm_M} {v0 : Int32} {v1 : Int32} {res : Int32} (hf : f_X9_placeOf_0 M v0 v1 = some res) (ko : (fun z => mm_q g 0 0 (some (mm_i z)) M) res) : mm_X g 0 0 M 0 [(0, mm_i v0), (1, mm_i v1)] [] := by
  unfold f_X9_placeOf_0 at hf
  refine xr_iconst 1 C (v := 4) dX9_placeOf_0 (by decide) rfl ?_
  refine xr_iload_n 2 0 C dX9_placeOf_1 rfl rfl rfl ?_
  refine xr_imul 3 C dX9_placeOf_2 rfl ?_
  refine xr_iload_n 4 1 C dX9_placeOf_3 rfl rfl rfl ?_
  refine xr_iadd 5 C dX9_placeOf_4 rfl ?_
  obtain rfl := Option.some.inj hf
  exact xr_iret C ko ⟨(Nat.le_of_ble_eq_true rfl), (Nat.le_of_ble_eq_true rfl)⟩ dX9_placeOf_5
noncomputable def f_X9_placeOf (M : mm_M) (v0 : Int32) (v1 : Int32) : Option (Int32) := f_X9_placeOf_0 M v0 v1
theorem c_X9_placeOf (l : Launch) (G : va_G) (cy : Nat → ClassId) {M : mm_M} {v0 : Int32} {v1 : Int32} {r : Int32} (hf : f_X9_placeOf M v0 v1 = some r) : mm_Met l yX9_placeOf cX9_placeOf 2 (some .int) 0 0 0 0 G cy [mm_i v0, mm_i v1] M (some (mm_i r)) M :=
  mm_enter (by decide) (Nat.le_of_ble_eq_true rfl) (fun p e R s m args below meth c Q C hq => xr_sub [0, 1] (lv2 := [(0, mm_i v0), (1, mm_i v1)]) rfl (w_X9_placeOf_0 C hf hq))
noncomputable def f_X6_chanceAt_23 (M : mm_M) (s0 : Int32) : Option (Int32) :=
  some s0
set_option maxRecDepth 20000 in
theorem w_X6_chanceAt_23 {g : mm_c} (C : mm_ok g cX6_chanceAt "LessonCards$Learner" (some .int) "chanceAt" 4 5 107 0 0) {M : mm_M} {s0 : Int32} {res : Int32} (hf : f_X6_chanceAt_23 M s0 = some res) (ko : (fun z => mm_q g 0 0 (some (mm_i z)) M) res) : mm_X g 0 0 M 23 [] [mm_i s0] := by
  unfold f_X6_chanceAt_23 at hf
  obtain rfl := Option.some.inj hf
  exact xr_iret C ko ⟨(Nat.le_of_ble_eq_true rfl), (Nat.le_of_ble_eq_true rfl)⟩ dX6_chanceAt_23
noncomputable def f_X6_chanceAt_10 (M : mm_M) : Option (Int32) :=
  f_X6_chanceAt_23 M 0
set_option maxRecDepth 20000 in
theorem w_X6_chanceAt_10 {g : mm_c} (C : mm_ok g cX6_chanceAt "LessonCards$Learner" (some .int) "chanceAt" 4 5 107 0 0) {M : mm_M} {res : Int32} (hf : f_X6_chanceAt_10 M = some res) (ko : (fun z => mm_q g 0 0 (some (mm_i z)) M) res) : mm_X g 0 0 M 10 [] [] := by
  unfold f_X6_chanceAt_10 at hf
  refine xr_iconst 11 C (v := 0) dX6_chanceAt_10 (by decide) rfl ?_
  refine xr_goto 23 C dX6_chanceAt_11 (by decide) ?_
  exact w_X6_chanceAt_23 C hf ko
noncomputable def f_X6_chanceAt_14 (M : mm_M) (v0 : Option Nat) (v2 : Option Nat) (v3 : Option Nat) : Option (Int32) :=
  (mm_fI M v0 7 3).bind fun x16 =>
  (mm_rc M v3 9).bind fun u20 =>
  (f_X8_chanceOn M v3 x16 v2).bind fun x20 =>
  f_X6_chanceAt_23 M x20
set_option maxRecDepth 20000 in
theorem w_X6_chanceAt_14 {g : mm_c} (C : mm_ok g cX6_chanceAt "LessonCards$Learner" (some .int) "chanceAt" 4 5 107 0 0) {M : mm_M} {v0 : Option Nat} {v2 : Option Nat} {v3 : Option Nat} {res : Int32} (hf : f_X6_chanceAt_14 M v0 v2 v3 = some res) (ko : (fun z => mm_q g 0 0 (some (mm_i z)) M) res) : mm_X g 0 0 M 14 [(0, mm_r v0), (2, mm_r v2), (3, mm_r v3)] [] := by
  unfold f_X6_chanceAt_14 at hf
  refine xr_aload_n 15 2 C dX6_chanceAt_14 rfl rfl rfl ?_
  refine xr_aload_n 16 0 C dX6_chanceAt_15 rfl rfl rfl ?_
  obtain ⟨x16, h16, hf⟩ := mm_bd_e hf
  refine xr_getI 19 C cf_X6_47 rfl h16 dX6_chanceAt_16 rfl ?_
  refine xr_aload_n 20 1 C dX6_chanceAt_19 rfl rfl rfl ?_
  obtain ⟨u20, g20, hf⟩ := mm_bd_e hf
  obtain ⟨x20, h20, hf⟩ := mm_bd_e hf
  refine xr_callV 23 C [mm_i x16, mm_r v2] cm_X6_102 (fun l G cy => c_X8_chanceOn l G cy h20) g20 rfl rfl ⟨⟨Nat.le_of_ble_eq_true rfl, Nat.le_of_ble_eq_true rfl⟩, (Nat.le_of_ble_eq_true rfl), (Nat.le_of_ble_eq_true rfl)⟩ (Nat.le_of_ble_eq_true rfl) dX6_chanceAt_20 rfl ?_
  refine xr_sub [] (lv2 := []) rfl ?_
  exact w_X6_chanceAt_23 C hf ko
noncomputable def f_X6_chanceAt_0 (M : mm_M) (v0 : Option Nat) (v1 : Int32) (v2 : Option Nat) : Option (Int32) :=
  (mm_rc M v0 7).bind fun u2 =>
  (f_X6_memoryAt M v0 v1).bind fun x2 =>
  if x2 = none then f_X6_chanceAt_10 M else f_X6_chanceAt_14 M v0 v2 x2
set_option maxRecDepth 20000 in
theorem w_X6_chanceAt_0 {g : mm_c} (C : mm_ok g cX6_chanceAt "LessonCards$Learner" (some .int) "chanceAt" 4 5 107 0 0) {M : mm_M} {v0 : Option Nat} {v1 : Int32} {v2 : Option Nat} {res : Int32} (hf : f_X6_chanceAt_0 M v0 v1 v2 = some res) (ko : (fun z => mm_q g 0 0 (some (mm_i z)) M) res) : mm_X g 0 0 M 0 [(0, mm_r v0), (1, mm_i v1), (2, mm_r v2)] [] := by
  unfold f_X6_chanceAt_0 at hf
  refine xr_aload_n 1 0 C dX6_chanceAt_0 rfl rfl rfl ?_
  refine xr_iload_n 2 1 C dX6_chanceAt_1 rfl rfl rfl ?_
  obtain ⟨u2, g2, hf⟩ := mm_bd_e hf
  obtain ⟨x2, h2, hf⟩ := mm_bd_e hf
  refine xr_callV 5 C [mm_i v1] cm_X6_101 (fun l G cy => c_X6_memoryAt l G cy h2) g2 rfl rfl ⟨⟨Nat.le_of_ble_eq_true rfl, Nat.le_of_ble_eq_true rfl⟩, (Nat.le_of_ble_eq_true rfl), (Nat.le_of_ble_eq_true rfl)⟩ (Nat.le_of_ble_eq_true rfl) dX6_chanceAt_2 rfl ?_
  refine xr_astore_n 6 C dX6_chanceAt_5 rfl (by decide) rfl [(3, mm_r x2), (0, mm_r v0), (1, mm_i v1), (2, mm_r v2)] rfl ?_
  refine xr_aload_n 7 0 C dX6_chanceAt_6 rfl rfl rfl ?_
  refine xr_ifnonnull 14 10 C dX6_chanceAt_7 (by decide) rfl (fun hc => ?_) (fun hc => ?_)
  · replace hf := (if_neg hc).symm.trans hf
    refine xr_sub [1, 3, 0] (lv2 := [(0, mm_r v0), (2, mm_r v2), (3, mm_r x2)]) rfl ?_
    exact w_X6_chanceAt_14 C hf ko
  · replace hf := (if_pos hc).symm.trans hf
    refine xr_sub [] (lv2 := []) rfl ?_
    exact w_X6_chanceAt_10 C hf ko
noncomputable def f_X6_chanceAt (M : mm_M) (v0 : Option Nat) (v1 : Int32) (v2 : Option Nat) : Option (Int32) := f_X6_chanceAt_0 M v0 v1 v2
theorem c_X6_chanceAt (l : Launch) (G : va_G) (cy : Nat → ClassId) {M : mm_M} {v0 : Option Nat} {v1 : Int32} {v2 : Option Nat} {r : Int32} (hf : f_X6_chanceAt M v0 v1 v2 = some r) : mm_Met l yX6_chanceAt cX6_chanceAt 4 (some .int) 5 107 0 0 G cy [mm_r v0, mm_i v1, mm_r v2] M (some (mm_i r)) M :=
  mm_enter (by decide) (Nat.le_of_ble_eq_true rfl) (fun p e R s m args below meth c Q C hq => xr_sub [0, 1, 2] (lv2 := [(0, mm_r v0), (1, mm_i v1), (2, mm_r v2)]) rfl (w_X6_chanceAt_0 C hf hq))
def h_X6_sinkLast_7 (g : mm_c) (v0 : Option Nat) (v1 : Option Nat) : (mm_M × Int32) → Prop := fun x => mm_X g 0 0 x.1 7 [(0, mm_r v0), (1, mm_r v1), (2, mm_i x.2)] []
noncomputable def f_X6_sinkLast_47 (M : mm_M) : Option (mm_M) :=
  some M
set_option maxRecDepth 20000 in
theorem w_X6_sinkLast_47 {g : mm_c} (C : mm_ok g cX6_sinkLast "LessonCards$Learner" none "sinkLast" 4 6 130 0 0) {M : mm_M} {res : mm_M} (hf : f_X6_sinkLast_47 M = some res) (ko : (fun z => mm_q g 0 0 none z) res) : mm_X g 0 0 M 47 [] [] := by
  unfold f_X6_sinkLast_47 at hf
  obtain rfl := Option.some.inj hf
  exact xr_vret C ko ⟨(Nat.le_of_ble_eq_true rfl), (Nat.le_of_ble_eq_true rfl)⟩ dX6_sinkLast_47
noncomputable def f_X6_sinkLast_48 (M : mm_M) (v0 : Option Nat) (v1 : Option Nat) (v2 : Int32) : Option ((mm_M × Int32) ⊕ (mm_M)) :=
  (mm_fR M v0 7 1).bind fun x49 =>
  (mm_aI M x49 12 v2).bind fun x53 =>
  (mm_fR M v0 7 1).bind fun x56 =>
  (mm_fR M v0 7 1).bind fun x61 =>
  (mm_aI M x61 12 (v2 - 1)).bind fun x67 =>
  (mm_tI M x56 v2 x67).bind fun M68 =>
  (mm_fR M68 v0 7 1).bind fun x70 =>
  (mm_tI M68 x70 (v2 - 1) x53).bind fun M77 =>
  some (.inl (M77, (v2 + (-1))))
set_option maxRecDepth 20000 in
theorem w_X6_sinkLast_48 {g : mm_c} (C : mm_ok g cX6_sinkLast "LessonCards$Learner" none "sinkLast" 4 6 130 0 0) {M : mm_M} {v0 : Option Nat} {v1 : Option Nat} {v2 : Int32} {res : (mm_M × Int32) ⊕ (mm_M)} (hf : f_X6_sinkLast_48 M v0 v1 v2 = some res) (ko : (mm_o (h_X6_sinkLast_7 g v0 v1) (fun z => mm_q g 0 0 none z)) res) : mm_X g 0 0 M 48 [(0, mm_r v0), (1, mm_r v1), (2, mm_i v2)] [] := by
  unfold f_X6_sinkLast_48 at hf
  refine xr_aload_n 49 0 C dX6_sinkLast_48 rfl rfl rfl ?_
  obtain ⟨x49, h49, hf⟩ := mm_bd_e hf
  refine xr_getR 52 C cf_X6_18 rfl h49 dX6_sinkLast_49 rfl ?_
  refine xr_iload_n 53 2 C dX6_sinkLast_52 rfl rfl rfl ?_
  obtain ⟨x53, h53, hf⟩ := mm_bd_e hf
  refine xr_aldI 54 C h53 dX6_sinkLast_53 rfl ?_
  refine xr_istore_n 55 C dX6_sinkLast_54 rfl (by decide) rfl [(3, mm_i x53), (0, mm_r v0), (1, mm_r v1), (2, mm_i v2)] rfl ?_
  refine xr_aload_n 56 1 C dX6_sinkLast_55 rfl rfl rfl ?_
  obtain ⟨x56, h56, hf⟩ := mm_bd_e hf
  refine xr_getR 59 C cf_X6_18 rfl h56 dX6_sinkLast_56 rfl ?_
  refine xr_iload_n 60 3 C dX6_sinkLast_59 rfl rfl rfl ?_
  refine xr_aload_n 61 1 C dX6_sinkLast_60 rfl rfl rfl ?_
  obtain ⟨x61, h61, hf⟩ := mm_bd_e hf
  refine xr_getR 64 C cf_X6_18 rfl h61 dX6_sinkLast_61 rfl ?_
  refine xr_iload_n 65 3 C dX6_sinkLast_64 rfl rfl rfl ?_
  refine xr_iconst 66 C (v := 1) dX6_sinkLast_65 (by decide) rfl ?_
  refine xr_isub 67 C dX6_sinkLast_66 rfl ?_
  obtain ⟨x67, h67, hf⟩ := mm_bd_e hf
  refine xr_aldI 68 C h67 dX6_sinkLast_67 rfl ?_
  obtain ⟨M68, h68, hf⟩ := mm_bd_e hf
  refine xr_astI 69 C h68 dX6_sinkLast_68 rfl ?_
  refine xr_aload_n 70 1 C dX6_sinkLast_69 rfl rfl rfl ?_
  obtain ⟨x70, h70, hf⟩ := mm_bd_e hf
  refine xr_getR 73 C cf_X6_18 rfl h70 dX6_sinkLast_70 rfl ?_
  refine xr_iload_n 74 3 C dX6_sinkLast_73 rfl rfl rfl ?_
  refine xr_iconst 75 C (v := 1) dX6_sinkLast_74 (by decide) rfl ?_
  refine xr_isub 76 C dX6_sinkLast_75 rfl ?_
  refine xr_iload_n 77 0 C dX6_sinkLast_76 rfl rfl rfl ?_
  obtain ⟨M77, h77, hf⟩ := mm_bd_e hf
  refine xr_astI 78 C h77 dX6_sinkLast_77 rfl ?_
  refine xr_iinc 81 3 C dX6_sinkLast_78 rfl (by decide) (v := (-1)) (by decide) rfl [(2, mm_i (v2 + (-1))), (3, mm_i x53), (0, mm_r v0), (1, mm_r v1)] rfl ?_
  refine xr_goto 7 C dX6_sinkLast_81 (by decide) ?_
  refine xr_sub [2, 3, 0] (lv2 := [(0, mm_r v0), (1, mm_r v1), (2, mm_i (v2 + (-1)))]) rfl ?_
  obtain rfl := Option.some.inj hf
  exact ko
noncomputable def f_X6_sinkLast_20 (M : mm_M) (v0 : Option Nat) (v1 : Option Nat) (v2 : Int32) : Option ((mm_M × Int32) ⊕ (mm_M)) :=
  (mm_fR M v0 7 1).bind fun x22 =>
  (mm_aI M x22 12 v2).bind fun x26 =>
  (mm_rc M v0 7).bind fun u28 =>
  (f_X6_chanceAt M v0 x26 v1).bind fun x28 =>
  (mm_fR M v0 7 1).bind fun x33 =>
  (mm_aI M x33 12 (v2 - 1)).bind fun x39 =>
  (mm_rc M v0 7).bind fun u41 =>
  (f_X6_chanceAt M v0 x39 v1).bind fun x41 =>
  if x28 < x41 then f_X6_sinkLast_48 M v0 v1 v2 else mm_mp (f_X6_sinkLast_47 M)
set_option maxRecDepth 20000 in
theorem w_X6_sinkLast_20 {g : mm_c} (C : mm_ok g cX6_sinkLast "LessonCards$Learner" none "sinkLast" 4 6 130 0 0) {M : mm_M} {v0 : Option Nat} {v1 : Option Nat} {v2 : Int32} {res : (mm_M × Int32) ⊕ (mm_M)} (hf : f_X6_sinkLast_20 M v0 v1 v2 = some res) (ko : (mm_o (h_X6_sinkLast_7 g v0 v1) (fun z => mm_q g 0 0 none z)) res) : mm_X g 0 0 M 20 [(0, mm_r v0), (1, mm_r v1), (2, mm_i v2)] [] := by
  unfold f_X6_sinkLast_20 at hf
  refine xr_aload_n 21 0 C dX6_sinkLast_20 rfl rfl rfl ?_
  refine xr_aload_n 22 0 C dX6_sinkLast_21 rfl rfl rfl ?_
  obtain ⟨x22, h22, hf⟩ := mm_bd_e hf
  refine xr_getR 25 C cf_X6_18 rfl h22 dX6_sinkLast_22 rfl ?_
  refine xr_iload_n 26 2 C dX6_sinkLast_25 rfl rfl rfl ?_
  obtain ⟨x26, h26, hf⟩ := mm_bd_e hf
  refine xr_aldI 27 C h26 dX6_sinkLast_26 rfl ?_
  refine xr_aload_n 28 1 C dX6_sinkLast_27 rfl rfl rfl ?_
  obtain ⟨u28, g28, hf⟩ := mm_bd_e hf
  obtain ⟨x28, h28, hf⟩ := mm_bd_e hf
  refine xr_callV 31 C [mm_i x26, mm_r v1] cm_X6_98 (fun l G cy => c_X6_chanceAt l G cy h28) g28 rfl rfl ⟨⟨Nat.le_of_ble_eq_true rfl, Nat.le_of_ble_eq_true rfl⟩, (Nat.le_of_ble_eq_true rfl), (Nat.le_of_ble_eq_true rfl)⟩ (Nat.le_of_ble_eq_true rfl) dX6_sinkLast_28 rfl ?_
  refine xr_aload_n 32 0 C dX6_sinkLast_31 rfl rfl rfl ?_
  refine xr_aload_n 33 0 C dX6_sinkLast_32 rfl rfl rfl ?_
  obtain ⟨x33, h33, hf⟩ := mm_bd_e hf
  refine xr_getR 36 C cf_X6_18 rfl h33 dX6_sinkLast_33 rfl ?_
  refine xr_iload_n 37 2 C dX6_sinkLast_36 rfl rfl rfl ?_
  refine xr_iconst 38 C (v := 1) dX6_sinkLast_37 (by decide) rfl ?_
  refine xr_isub 39 C dX6_sinkLast_38 rfl ?_
  obtain ⟨x39, h39, hf⟩ := mm_bd_e hf
  refine xr_aldI 40 C h39 dX6_sinkLast_39 rfl ?_
  refine xr_aload_n 41 1 C dX6_sinkLast_40 rfl rfl rfl ?_
  obtain ⟨u41, g41, hf⟩ := mm_bd_e hf
  obtain ⟨x41, h41, hf⟩ := mm_bd_e hf
  refine xr_callV 44 C [mm_i x39, mm_r v1] cm_X6_98 (fun l G cy => c_X6_chanceAt l G cy h41) g41 rfl rfl ⟨⟨Nat.le_of_ble_eq_true rfl, Nat.le_of_ble_eq_true rfl⟩, (Nat.le_of_ble_eq_true rfl), (Nat.le_of_ble_eq_true rfl)⟩ (Nat.le_of_ble_eq_true rfl) dX6_sinkLast_41 rfl ?_
  refine xr_icmp_lt 48 47 C dX6_sinkLast_44 (by decide) rfl (fun hc => ?_) (fun hc => ?_)
  · replace hf := (if_pos hc).symm.trans hf
    exact w_X6_sinkLast_48 C hf ko
  · replace hf := (if_neg hc).symm.trans hf
    refine xr_sub [] (lv2 := []) rfl ?_
    obtain ⟨z, hf2, rfl⟩ := mm_mp_e hf
    clear hf
    have hf := hf2
    clear hf2
    exact w_X6_sinkLast_47 C hf ko
noncomputable def f_X6_sinkLast_84 (M : mm_M) : Option (mm_M) :=
  some M
set_option maxRecDepth 20000 in
theorem w_X6_sinkLast_84 {g : mm_c} (C : mm_ok g cX6_sinkLast "LessonCards$Learner" none "sinkLast" 4 6 130 0 0) {M : mm_M} {res : mm_M} (hf : f_X6_sinkLast_84 M = some res) (ko : (fun z => mm_q g 0 0 none z) res) : mm_X g 0 0 M 84 [] [] := by
  unfold f_X6_sinkLast_84 at hf
  obtain rfl := Option.some.inj hf
  exact xr_vret C ko ⟨(Nat.le_of_ble_eq_true rfl), (Nat.le_of_ble_eq_true rfl)⟩ dX6_sinkLast_84
noncomputable def f_X6_sinkLast_11 (M : mm_M) (v0 : Option Nat) (v1 : Option Nat) (v2 : Int32) : Option ((mm_M × Int32) ⊕ (mm_M)) :=
  (mm_fR M v0 7 1).bind fun x13 =>
  (mm_ln M x13).bind fun x16 =>
  if x16 ≤ v2 then mm_mp (f_X6_sinkLast_84 M) else f_X6_sinkLast_20 M v0 v1 v2
set_option maxRecDepth 20000 in
theorem w_X6_sinkLast_11 {g : mm_c} (C : mm_ok g cX6_sinkLast "LessonCards$Learner" none "sinkLast" 4 6 130 0 0) {M : mm_M} {v0 : Option Nat} {v1 : Option Nat} {v2 : Int32} {res : (mm_M × Int32) ⊕ (mm_M)} (hf : f_X6_sinkLast_11 M v0 v1 v2 = some res) (ko : (mm_o (h_X6_sinkLast_7 g v0 v1) (fun z => mm_q g 0 0 none z)) res) : mm_X g 0 0 M 11 [(0, mm_r v0), (1, mm_r v1), (2, mm_i v2)] [] := by
  unfold f_X6_sinkLast_11 at hf
  refine xr_iload_n 12 2 C dX6_sinkLast_11 rfl rfl rfl ?_
  refine xr_aload_n 13 0 C dX6_sinkLast_12 rfl rfl rfl ?_
  obtain ⟨x13, h13, hf⟩ := mm_bd_e hf
  refine xr_getR 16 C cf_X6_18 rfl h13 dX6_sinkLast_13 rfl ?_
  obtain ⟨x16, h16, hf⟩ := mm_bd_e hf
  refine xr_alen 17 C h16 dX6_sinkLast_16 rfl ?_
  refine xr_icmp_ge 84 20 C dX6_sinkLast_17 (by decide) rfl (fun hc => ?_) (fun hc => ?_)
  · replace hf := (if_pos hc).symm.trans hf
    refine xr_sub [] (lv2 := []) rfl ?_
    obtain ⟨z, hf2, rfl⟩ := mm_mp_e hf
    clear hf
    have hf := hf2
    clear hf2
    exact w_X6_sinkLast_84 C hf ko
  · replace hf := (if_neg hc).symm.trans hf
    exact w_X6_sinkLast_20 C hf ko
noncomputable def f_X6_sinkLast_7 (M : mm_M) (v0 : Option Nat) (v1 : Option Nat) (v2 : Int32) : Option ((mm_M × Int32) ⊕ (mm_M)) :=
  if v2 ≤ 0 then mm_mp (f_X6_sinkLast_84 M) else f_X6_sinkLast_11 M v0 v1 v2
set_option maxRecDepth 20000 in
theorem w_X6_sinkLast_7 {g : mm_c} (C : mm_ok g cX6_sinkLast "LessonCards$Learner" none "sinkLast" 4 6 130 0 0) {M : mm_M} {v0 : Option Nat} {v1 : Option Nat} {v2 : Int32} {res : (mm_M × Int32) ⊕ (mm_M)} (hf : f_X6_sinkLast_7 M v0 v1 v2 = some res) (ko : (mm_o (h_X6_sinkLast_7 g v0 v1) (fun z => mm_q g 0 0 none z)) res) : mm_X g 0 0 M 7 [(0, mm_r v0), (1, mm_r v1), (2, mm_i v2)] [] := by
  unfold f_X6_sinkLast_7 at hf
  refine xr_iload_n 8 2 C dX6_sinkLast_7 rfl rfl rfl ?_
  refine xr_if_le 84 11 C dX6_sinkLast_8 (by decide) rfl (fun hc => ?_) (fun hc => ?_)
  · replace hf := (if_pos hc).symm.trans hf
    refine xr_sub [] (lv2 := []) rfl ?_
    obtain ⟨z, hf2, rfl⟩ := mm_mp_e hf
    clear hf
    have hf := hf2
    clear hf2
    exact w_X6_sinkLast_84 C hf ko
  · replace hf := (if_neg hc).symm.trans hf
    exact w_X6_sinkLast_11 C hf ko
noncomputable def f_X6_sinkLast_7w (M : mm_M) (v0 : Option Nat) (v1 : Option Nat) (v2 : Int32) : Option (mm_M) := mm_w (fun x => f_X6_sinkLast_7 x.1 v0 v1 x.2) (M, v2)
theorem l_X6_sinkLast_7 {g : mm_c} (C : mm_ok g cX6_sinkLast "LessonCards$Learner" none "sinkLast" 4 6 130 0 0) {M : mm_M} {v0 : Option Nat} {v1 : Option Nat} {v2 : Int32} {res : mm_M} (hf : f_X6_sinkLast_7w M v0 v1 v2 = some res) (ko : (fun z => mm_q g 0 0 none z) res) : mm_X g 0 0 M 7 [(0, mm_r v0), (1, mm_r v1), (2, mm_i v2)] [] :=
  mm_w_W (body := fun x => f_X6_sinkLast_7 x.1 v0 v1 x.2) (Wh := h_X6_sinkLast_7 g v0 v1) (ok := (fun z => mm_q g 0 0 none z)) (x := (M, v2)) (fun x r hb ho => w_X6_sinkLast_7 C hb ho) hf ko
noncomputable def f_X6_sinkLast_0 (M : mm_M) (v0 : Option Nat) (v1 : Option Nat) : Option (mm_M) :=
  (mm_fI M v0 7 2).bind fun x1 =>
  f_X6_sinkLast_7w M v0 v1 (x1 - 1)
set_option maxRecDepth 20000 in
theorem w_X6_sinkLast_0 {g : mm_c} (C : mm_ok g cX6_sinkLast "LessonCards$Learner" none "sinkLast" 4 6 130 0 0) {M : mm_M} {v0 : Option Nat} {v1 : Option Nat} {res : mm_M} (hf : f_X6_sinkLast_0 M v0 v1 = some res) (ko : (fun z => mm_q g 0 0 none z) res) : mm_X g 0 0 M 0 [(0, mm_r v0), (1, mm_r v1)] [] := by
  unfold f_X6_sinkLast_0 at hf
  refine xr_aload_n 1 0 C dX6_sinkLast_0 rfl rfl rfl ?_
  obtain ⟨x1, h1, hf⟩ := mm_bd_e hf
  refine xr_getI 4 C cf_X6_51 rfl h1 dX6_sinkLast_1 rfl ?_
  refine xr_iconst 5 C (v := 1) dX6_sinkLast_4 (by decide) rfl ?_
  refine xr_isub 6 C dX6_sinkLast_5 rfl ?_
  refine xr_istore_n 7 C dX6_sinkLast_6 rfl (by decide) rfl [(2, mm_i (x1 - 1)), (0, mm_r v0), (1, mm_r v1)] rfl ?_
  refine xr_sub [1, 2, 0] (lv2 := [(0, mm_r v0), (1, mm_r v1), (2, mm_i (x1 - 1))]) rfl ?_
  exact l_X6_sinkLast_7 C hf ko
noncomputable def f_X6_sinkLast (M : mm_M) (v0 : Option Nat) (v1 : Option Nat) : Option (mm_M) := f_X6_sinkLast_0 M v0 v1
theorem c_X6_sinkLast (l : Launch) (G : va_G) (cy : Nat → ClassId) {M : mm_M} {v0 : Option Nat} {v1 : Option Nat} {M1 : mm_M} (hf : f_X6_sinkLast M v0 v1 = some M1) : mm_Met l yX6_sinkLast cX6_sinkLast 4 none 6 130 0 0 G cy [mm_r v0, mm_r v1] M none M1 :=
  mm_enter (by decide) (Nat.le_of_ble_eq_true rfl) (fun p e R s m args below meth c Q C hq => xr_sub [0, 1] (lv2 := [(0, mm_r v0), (1, mm_r v1)]) rfl (w_X6_sinkLast_0 C hf hq))
def h_X6_askDue_7 (g : mm_c) (v0 : Option Nat) (v1 : Int32) (v2 : Option Nat) : (mm_M × Int32) → Prop := fun x => mm_X g 0 0 x.1 7 [(0, mm_r v0), (1, mm_i v1), (2, mm_r v2), (3, mm_i x.2)] []
noncomputable def f_X6_askDue_59 (M : mm_M) (v0 : Option Nat) (v1 : Int32) (v2 : Option Nat) (v3 : Int32) : Option ((mm_M × Int32) ⊕ (mm_M)) :=
  some (.inl (M, (v3 + 1)))
set_option maxRecDepth 20000 in
theorem w_X6_askDue_59 {g : mm_c} (C : mm_ok g cX6_askDue "LessonCards$Learner" none "askDue" 5 7 153 0 0) {M : mm_M} {v0 : Option Nat} {v1 : Int32} {v2 : Option Nat} {v3 : Int32} {res : (mm_M × Int32) ⊕ (mm_M)} (hf : f_X6_askDue_59 M v0 v1 v2 v3 = some res) (ko : (mm_o (h_X6_askDue_7 g v0 v1 v2) (fun z => mm_q g 0 0 none z)) res) : mm_X g 0 0 M 59 [(0, mm_r v0), (1, mm_i v1), (2, mm_r v2), (3, mm_i v3)] [] := by
  unfold f_X6_askDue_59 at hf
  refine xr_iinc 62 3 C dX6_askDue_59 rfl (by decide) (v := 1) (by decide) rfl [(3, mm_i (v3 + 1)), (0, mm_r v0), (1, mm_i v1), (2, mm_r v2)] rfl ?_
  refine xr_goto 7 C dX6_askDue_62 (by decide) ?_
  refine xr_sub [1, 2, 3, 0] (lv2 := [(0, mm_r v0), (1, mm_i v1), (2, mm_r v2), (3, mm_i (v3 + 1))]) rfl ?_
  obtain rfl := Option.some.inj hf
  exact ko
noncomputable def f_X6_askDue_44 (M : mm_M) (v0 : Option Nat) (v1 : Int32) (v2 : Option Nat) (v3 : Int32) (v4 : Int32) : Option ((mm_M × Int32) ⊕ (mm_M)) :=
  (f_X9_placeOf M v3 v4).bind fun x48 =>
  (mm_rc M v0 7).bind fun u51 =>
  (f_X6_append M v0 x48).bind fun M51 =>
  (mm_rc M51 v0 7).bind fun u56 =>
  (f_X6_sinkLast M51 v0 v2).bind fun M56 =>
  f_X6_askDue_59 M56 v0 v1 v2 v3
set_option maxRecDepth 20000 in
theorem w_X6_askDue_44 {g : mm_c} (C : mm_ok g cX6_askDue "LessonCards$Learner" none "askDue" 5 7 153 0 0) {M : mm_M} {v0 : Option Nat} {v1 : Int32} {v2 : Option Nat} {v3 : Int32} {v4 : Int32} {res : (mm_M × Int32) ⊕ (mm_M)} (hf : f_X6_askDue_44 M v0 v1 v2 v3 v4 = some res) (ko : (mm_o (h_X6_askDue_7 g v0 v1 v2) (fun z => mm_q g 0 0 none z)) res) : mm_X g 0 0 M 44 [(0, mm_r v0), (1, mm_i v1), (2, mm_r v2), (3, mm_i v3), (4, mm_i v4)] [] := by
  unfold f_X6_askDue_44 at hf
  refine xr_aload_n 45 0 C dX6_askDue_44 rfl rfl rfl ?_
  refine xr_iload_n 46 3 C dX6_askDue_45 rfl rfl rfl ?_
  refine xr_iload 48 4 C dX6_askDue_46 rfl rfl ?_
  obtain ⟨x48, h48, hf⟩ := mm_bd_e hf
  refine xr_callS 51 C [mm_i v3, mm_i v4] cm_X6_82 (fun l G cy => c_X9_placeOf l G cy h48) rfl rfl ⟨⟨Nat.le_of_ble_eq_true rfl, Nat.le_of_ble_eq_true rfl⟩, (Nat.le_of_ble_eq_true rfl), (Nat.le_of_ble_eq_true rfl)⟩ (Nat.le_of_ble_eq_true rfl) dX6_askDue_48 rfl ?_
  obtain ⟨u51, g51, hf⟩ := mm_bd_e hf
  obtain ⟨M51, h51, hf⟩ := mm_bd_e hf
  refine xr_callV 54 C [mm_i x48] cm_X6_86 (fun l G cy => c_X6_append l G cy h51) g51 rfl rfl ⟨⟨Nat.le_of_ble_eq_true rfl, Nat.le_of_ble_eq_true rfl⟩, (Nat.le_of_ble_eq_true rfl), (Nat.le_of_ble_eq_true rfl)⟩ (Nat.le_of_ble_eq_true rfl) dX6_askDue_51 rfl ?_
  refine xr_aload_n 55 0 C dX6_askDue_54 rfl rfl rfl ?_
  refine xr_aload_n 56 2 C dX6_askDue_55 rfl rfl rfl ?_
  obtain ⟨u56, g56, hf⟩ := mm_bd_e hf
  obtain ⟨M56, h56, hf⟩ := mm_bd_e hf
  refine xr_callV 59 C [mm_r v2] cm_X6_89 (fun l G cy => c_X6_sinkLast l G cy h56) g56 rfl rfl ⟨⟨Nat.le_of_ble_eq_true rfl, Nat.le_of_ble_eq_true rfl⟩, (Nat.le_of_ble_eq_true rfl), (Nat.le_of_ble_eq_true rfl)⟩ (Nat.le_of_ble_eq_true rfl) dX6_askDue_56 rfl ?_
  refine xr_sub [0, 1, 2, 3] (lv2 := [(0, mm_r v0), (1, mm_i v1), (2, mm_r v2), (3, mm_i v3)]) rfl ?_
  exact w_X6_askDue_59 C hf ko
noncomputable def f_X6_askDue_18 (M : mm_M) (v0 : Option Nat) (v1 : Int32) (v2 : Option Nat) (v3 : Int32) : Option ((mm_M × Int32) ⊕ (mm_M)) :=
  (mm_fR M v0 7 0).bind fun x19 =>
  (mm_rc M x19 0).bind fun u23 =>
  (f_Jx4a65c_get_915e3 M x19 v3).bind fun x23 =>
  (mm_cc M x23 6).bind fun u26 =>
  (mm_fI M v0 7 3).bind fun x30 =>
  (mm_rc M x23 6).bind fun u34 =>
  (f_X5_mostUrgent M x23 x30 v2).bind fun x34 =>
  if x34 < 0 then f_X6_askDue_59 M v0 v1 v2 v3 else f_X6_askDue_44 M v0 v1 v2 v3 x34
set_option maxRecDepth 20000 in
theorem w_X6_askDue_18 {g : mm_c} (C : mm_ok g cX6_askDue "LessonCards$Learner" none "askDue" 5 7 153 0 0) {M : mm_M} {v0 : Option Nat} {v1 : Int32} {v2 : Option Nat} {v3 : Int32} {res : (mm_M × Int32) ⊕ (mm_M)} (hf : f_X6_askDue_18 M v0 v1 v2 v3 = some res) (ko : (mm_o (h_X6_askDue_7 g v0 v1 v2) (fun z => mm_q g 0 0 none z)) res) : mm_X g 0 0 M 18 [(0, mm_r v0), (1, mm_i v1), (2, mm_r v2), (3, mm_i v3)] [] := by
  unfold f_X6_askDue_18 at hf
  refine xr_aload_n 19 0 C dX6_askDue_18 rfl rfl rfl ?_
  obtain ⟨x19, h19, hf⟩ := mm_bd_e hf
  refine xr_getR 22 C cf_X6_12 rfl h19 dX6_askDue_19 rfl ?_
  refine xr_iload_n 23 3 C dX6_askDue_22 rfl rfl rfl ?_
  obtain ⟨u23, g23, hf⟩ := mm_bd_e hf
  obtain ⟨x23, h23, hf⟩ := mm_bd_e hf
  refine xr_callV 26 C [mm_i v3] cm_X6_35 (fun l G cy => c_Jx4a65c_get_915e3 l G cy h23) g23 rfl rfl ⟨⟨Nat.le_of_ble_eq_true rfl, Nat.le_of_ble_eq_true rfl⟩, (Nat.le_of_ble_eq_true rfl), (Nat.le_of_ble_eq_true rfl)⟩ (Nat.le_of_ble_eq_true rfl) dX6_askDue_23 rfl ?_
  obtain ⟨u26, h26, hf⟩ := mm_bd_e hf
  refine xr_cast 29 C (ci := 6) rfl (by decide) wd_259 h26 dX6_askDue_26 rfl ?_
  refine xr_aload_n 30 0 C dX6_askDue_29 rfl rfl rfl ?_
  obtain ⟨x30, h30, hf⟩ := mm_bd_e hf
  refine xr_getI 33 C cf_X6_47 rfl h30 dX6_askDue_30 rfl ?_
  refine xr_aload_n 34 2 C dX6_askDue_33 rfl rfl rfl ?_
  obtain ⟨u34, g34, hf⟩ := mm_bd_e hf
  obtain ⟨x34, h34, hf⟩ := mm_bd_e hf
  refine xr_callV 37 C [mm_i x30, mm_r v2] cm_X6_78 (fun l G cy => c_X5_mostUrgent l G cy h34) g34 rfl rfl ⟨⟨Nat.le_of_ble_eq_true rfl, Nat.le_of_ble_eq_true rfl⟩, (Nat.le_of_ble_eq_true rfl), (Nat.le_of_ble_eq_true rfl)⟩ (Nat.le_of_ble_eq_true rfl) dX6_askDue_34 rfl ?_
  refine xr_istore 39 C dX6_askDue_37 (by decide) rfl [(4, mm_i x34), (0, mm_r v0), (1, mm_i v1), (2, mm_r v2), (3, mm_i v3)] rfl ?_
  refine xr_iload 41 0 C dX6_askDue_39 rfl rfl ?_
  refine xr_if_lt 59 44 C dX6_askDue_41 (by decide) rfl (fun hc => ?_) (fun hc => ?_)
  · replace hf := (if_pos hc).symm.trans hf
    refine xr_sub [1, 2, 3, 4] (lv2 := [(0, mm_r v0), (1, mm_i v1), (2, mm_r v2), (3, mm_i v3)]) rfl ?_
    exact w_X6_askDue_59 C hf ko
  · replace hf := (if_neg hc).symm.trans hf
    refine xr_sub [1, 2, 3, 4, 0] (lv2 := [(0, mm_r v0), (1, mm_i v1), (2, mm_r v2), (3, mm_i v3), (4, mm_i x34)]) rfl ?_
    exact w_X6_askDue_44 C hf ko
noncomputable def f_X6_askDue_65 (M : mm_M) (v0 : Option Nat) (v1 : Int32) : Option (mm_M) :=
  (mm_fI M v0 7 2).bind fun x67 =>
  (mm_pI M v0 7 2 (if v1 < x67 then v1 else x67)).bind fun M74 =>
  some M74
set_option maxRecDepth 20000 in
theorem w_X6_askDue_65 {g : mm_c} (C : mm_ok g cX6_askDue "LessonCards$Learner" none "askDue" 5 7 153 0 0) {M : mm_M} {v0 : Option Nat} {v1 : Int32} {res : mm_M} (hf : f_X6_askDue_65 M v0 v1 = some res) (ko : (fun z => mm_q g 0 0 none z) res) : mm_X g 0 0 M 65 [(0, mm_r v0), (1, mm_i v1)] [] := by
  unfold f_X6_askDue_65 at hf
  refine xr_aload_n 66 0 C dX6_askDue_65 rfl rfl rfl ?_
  refine xr_aload_n 67 0 C dX6_askDue_66 rfl rfl rfl ?_
  obtain ⟨x67, h67, hf⟩ := mm_bd_e hf
  refine xr_getI 70 C cf_X6_51 rfl h67 dX6_askDue_67 rfl ?_
  refine xr_iload_n 71 1 C dX6_askDue_70 rfl rfl rfl ?_
  refine xr_mmin 74 C wd_519 wd_353 wd_59 wd_354 ⟨Nat.le_of_ble_eq_true rfl, Nat.le_of_ble_eq_true rfl, (Nat.le_of_ble_eq_true rfl), (Nat.le_of_ble_eq_true rfl)⟩ (Nat.le_of_ble_eq_true rfl) dX6_askDue_71 rfl ?_
  obtain ⟨M74, h74, hf⟩ := mm_bd_e hf
  refine xr_putI 77 C cf_X6_51 (fun h => by cases h) h74 dX6_askDue_74 rfl ?_
  obtain rfl := Option.some.inj hf
  exact xr_vret C ko ⟨(Nat.le_of_ble_eq_true rfl), (Nat.le_of_ble_eq_true rfl)⟩ dX6_askDue_77
noncomputable def f_X6_askDue_7 (M : mm_M) (v0 : Option Nat) (v1 : Int32) (v2 : Option Nat) (v3 : Int32) : Option ((mm_M × Int32) ⊕ (mm_M)) :=
  (mm_fR M v0 7 0).bind fun x9 =>
  (mm_rc M x9 0).bind fun u12 =>
  (f_Jx4a65c_size_8abf5 M x9).bind fun x12 =>
  if x12 ≤ v3 then mm_mp (f_X6_askDue_65 M v0 v1) else f_X6_askDue_18 M v0 v1 v2 v3
set_option maxRecDepth 20000 in
theorem w_X6_askDue_7 {g : mm_c} (C : mm_ok g cX6_askDue "LessonCards$Learner" none "askDue" 5 7 153 0 0) {M : mm_M} {v0 : Option Nat} {v1 : Int32} {v2 : Option Nat} {v3 : Int32} {res : (mm_M × Int32) ⊕ (mm_M)} (hf : f_X6_askDue_7 M v0 v1 v2 v3 = some res) (ko : (mm_o (h_X6_askDue_7 g v0 v1 v2) (fun z => mm_q g 0 0 none z)) res) : mm_X g 0 0 M 7 [(0, mm_r v0), (1, mm_i v1), (2, mm_r v2), (3, mm_i v3)] [] := by
  unfold f_X6_askDue_7 at hf
  refine xr_iload_n 8 3 C dX6_askDue_7 rfl rfl rfl ?_
  refine xr_aload_n 9 0 C dX6_askDue_8 rfl rfl rfl ?_
  obtain ⟨x9, h9, hf⟩ := mm_bd_e hf
  refine xr_getR 12 C cf_X6_12 rfl h9 dX6_askDue_9 rfl ?_
  obtain ⟨u12, g12, hf⟩ := mm_bd_e hf
  obtain ⟨x12, h12, hf⟩ := mm_bd_e hf
  refine xr_callV 15 C [] cm_X6_31 (fun l G cy => c_Jx4a65c_size_8abf5 l G cy h12) g12 rfl rfl ⟨⟨Nat.le_of_ble_eq_true rfl, Nat.le_of_ble_eq_true rfl⟩, (Nat.le_of_ble_eq_true rfl), (Nat.le_of_ble_eq_true rfl)⟩ (Nat.le_of_ble_eq_true rfl) dX6_askDue_12 rfl ?_
  refine xr_icmp_ge 65 18 C dX6_askDue_15 (by decide) rfl (fun hc => ?_) (fun hc => ?_)
  · replace hf := (if_pos hc).symm.trans hf
    refine xr_sub [0, 1] (lv2 := [(0, mm_r v0), (1, mm_i v1)]) rfl ?_
    obtain ⟨z, hf2, rfl⟩ := mm_mp_e hf
    clear hf
    have hf := hf2
    clear hf2
    exact w_X6_askDue_65 C hf ko
  · replace hf := (if_neg hc).symm.trans hf
    exact w_X6_askDue_18 C hf ko
noncomputable def f_X6_askDue_7w (M : mm_M) (v0 : Option Nat) (v1 : Int32) (v2 : Option Nat) (v3 : Int32) : Option (mm_M) := mm_w (fun x => f_X6_askDue_7 x.1 v0 v1 v2 x.2) (M, v3)
theorem l_X6_askDue_7 {g : mm_c} (C : mm_ok g cX6_askDue "LessonCards$Learner" none "askDue" 5 7 153 0 0) {M : mm_M} {v0 : Option Nat} {v1 : Int32} {v2 : Option Nat} {v3 : Int32} {res : mm_M} (hf : f_X6_askDue_7w M v0 v1 v2 v3 = some res) (ko : (fun z => mm_q g 0 0 none z) res) : mm_X g 0 0 M 7 [(0, mm_r v0), (1, mm_i v1), (2, mm_r v2), (3, mm_i v3)] [] :=
  mm_w_W (body := fun x => f_X6_askDue_7 x.1 v0 v1 v2 x.2) (Wh := h_X6_askDue_7 g v0 v1 v2) (ok := (fun z => mm_q g 0 0 none z)) (x := (M, v3)) (fun x r hb ho => w_X6_askDue_7 C hb ho) hf ko
noncomputable def f_X6_askDue_0 (M : mm_M) (v0 : Option Nat) (v1 : Int32) (v2 : Option Nat) : Option (mm_M) :=
  (mm_pI M v0 7 2 0).bind fun M2 =>
  f_X6_askDue_7w M2 v0 v1 v2 0
set_option maxRecDepth 20000 in
theorem w_X6_askDue_0 {g : mm_c} (C : mm_ok g cX6_askDue "LessonCards$Learner" none "askDue" 5 7 153 0 0) {M : mm_M} {v0 : Option Nat} {v1 : Int32} {v2 : Option Nat} {res : mm_M} (hf : f_X6_askDue_0 M v0 v1 v2 = some res) (ko : (fun z => mm_q g 0 0 none z) res) : mm_X g 0 0 M 0 [(0, mm_r v0), (1, mm_i v1), (2, mm_r v2)] [] := by
  unfold f_X6_askDue_0 at hf
  refine xr_aload_n 1 0 C dX6_askDue_0 rfl rfl rfl ?_
  refine xr_iconst 2 C (v := 0) dX6_askDue_1 (by decide) rfl ?_
  obtain ⟨M2, h2, hf⟩ := mm_bd_e hf
  refine xr_putI 5 C cf_X6_51 (fun h => by cases h) h2 dX6_askDue_2 rfl ?_
  refine xr_iconst 6 C (v := 0) dX6_askDue_5 (by decide) rfl ?_
  refine xr_istore_n 7 C dX6_askDue_6 rfl (by decide) rfl [(3, mm_i 0), (0, mm_r v0), (1, mm_i v1), (2, mm_r v2)] rfl ?_
  refine xr_sub [1, 2, 3, 0] (lv2 := [(0, mm_r v0), (1, mm_i v1), (2, mm_r v2), (3, mm_i 0)]) rfl ?_
  exact l_X6_askDue_7 C hf ko
noncomputable def f_X6_askDue (M : mm_M) (v0 : Option Nat) (v1 : Int32) (v2 : Option Nat) : Option (mm_M) := f_X6_askDue_0 M v0 v1 v2
theorem c_X6_askDue (l : Launch) (G : va_G) (cy : Nat → ClassId) {M : mm_M} {v0 : Option Nat} {v1 : Int32} {v2 : Option Nat} {M1 : mm_M} (hf : f_X6_askDue M v0 v1 v2 = some M1) : mm_Met l yX6_askDue cX6_askDue 5 none 7 153 0 0 G cy [mm_r v0, mm_i v1, mm_r v2] M none M1 :=
  mm_enter (by decide) (Nat.le_of_ble_eq_true rfl) (fun p e R s m args below meth c Q C hq => xr_sub [0, 1, 2] (lv2 := [(0, mm_r v0), (1, mm_i v1), (2, mm_r v2)]) rfl (w_X6_askDue_0 C hf hq))
def h_X6_isReady_8 (g : mm_c) (M : mm_M) (v0 : Option Nat) (v1 : Option Nat) (v2 : Option Nat) : Int32 → Prop := fun x => mm_X g 0 0 M 8 [(0, mm_r v0), (1, mm_r v1), (2, mm_r v2), (3, mm_i x)] []
noncomputable def f_X6_isReady_4 (M : mm_M) : Option (Int32) :=
  some 0
set_option maxRecDepth 20000 in
theorem w_X6_isReady_4 {g : mm_c} (C : mm_ok g cX6_isReady "LessonCards$Learner" (some .boolean) "isReady" 5 4 88 0 0) {M : mm_M} {res : Int32} (hf : f_X6_isReady_4 M = some res) (ko : (fun z => mm_q g 0 0 (some (mm_i z)) M) res) : mm_X g 0 0 M 4 [] [] := by
  unfold f_X6_isReady_4 at hf
  refine xr_iconst 5 C (v := 0) dX6_isReady_4 (by decide) rfl ?_
  obtain rfl := Option.some.inj hf
  exact xr_zret C (by decide) ko ⟨(Nat.le_of_ble_eq_true rfl), (Nat.le_of_ble_eq_true rfl)⟩ dX6_isReady_5
noncomputable def f_X6_isReady_55 (M : mm_M) : Option (Int32) :=
  some 0
set_option maxRecDepth 20000 in
theorem w_X6_isReady_55 {g : mm_c} (C : mm_ok g cX6_isReady "LessonCards$Learner" (some .boolean) "isReady" 5 4 88 0 0) {M : mm_M} {res : Int32} (hf : f_X6_isReady_55 M = some res) (ko : (fun z => mm_q g 0 0 (some (mm_i z)) M) res) : mm_X g 0 0 M 55 [] [] := by
  unfold f_X6_isReady_55 at hf
  refine xr_iconst 56 C (v := 0) dX6_isReady_55 (by decide) rfl ?_
  obtain rfl := Option.some.inj hf
  exact xr_zret C (by decide) ko ⟨(Nat.le_of_ble_eq_true rfl), (Nat.le_of_ble_eq_true rfl)⟩ dX6_isReady_56
noncomputable def f_X6_isReady_57 (M : mm_M) (v0 : Option Nat) (v1 : Option Nat) (v2 : Option Nat) (v3 : Int32) : Option (Int32 ⊕ (Int32)) :=
  some (.inl (v3 + 1))
set_option maxRecDepth 20000 in
theorem w_X6_isReady_57 {g : mm_c} (C : mm_ok g cX6_isReady "LessonCards$Learner" (some .boolean) "isReady" 5 4 88 0 0) {M : mm_M} {v0 : Option Nat} {v1 : Option Nat} {v2 : Option Nat} {v3 : Int32} {res : Int32 ⊕ (Int32)} (hf : f_X6_isReady_57 M v0 v1 v2 v3 = some res) (ko : (mm_o (h_X6_isReady_8 g M v0 v1 v2) (fun z => mm_q g 0 0 (some (mm_i z)) M)) res) : mm_X g 0 0 M 57 [(0, mm_r v0), (1, mm_r v1), (2, mm_r v2), (3, mm_i v3)] [] := by
  unfold f_X6_isReady_57 at hf
  refine xr_iinc 60 3 C dX6_isReady_57 rfl (by decide) (v := 1) (by decide) rfl [(3, mm_i (v3 + 1)), (0, mm_r v0), (1, mm_r v1), (2, mm_r v2)] rfl ?_
  refine xr_goto 8 C dX6_isReady_60 (by decide) ?_
  refine xr_sub [1, 2, 3, 0] (lv2 := [(0, mm_r v0), (1, mm_r v1), (2, mm_r v2), (3, mm_i (v3 + 1))]) rfl ?_
  obtain rfl := Option.some.inj hf
  exact ko
noncomputable def f_X6_isReady_42 (M : mm_M) (v0 : Option Nat) (v1 : Option Nat) (v2 : Option Nat) (v3 : Int32) (v4 : Option Nat) : Option (Int32 ⊕ (Int32)) :=
  (mm_fI M v0 7 3).bind fun x45 =>
  (mm_rc M v4 6).bind fun u49 =>
  (f_X5_isKnown M v4 x45 v2).bind fun x49 =>
  if x49 = 0 then mm_mp (f_X6_isReady_55 M) else f_X6_isReady_57 M v0 v1 v2 v3
set_option maxRecDepth 20000 in
theorem w_X6_isReady_42 {g : mm_c} (C : mm_ok g cX6_isReady "LessonCards$Learner" (some .boolean) "isReady" 5 4 88 0 0) {M : mm_M} {v0 : Option Nat} {v1 : Option Nat} {v2 : Option Nat} {v3 : Int32} {v4 : Option Nat} {res : Int32 ⊕ (Int32)} (hf : f_X6_isReady_42 M v0 v1 v2 v3 v4 = some res) (ko : (mm_o (h_X6_isReady_8 g M v0 v1 v2) (fun z => mm_q g 0 0 (some (mm_i z)) M)) res) : mm_X g 0 0 M 42 [(0, mm_r v0), (1, mm_r v1), (2, mm_r v2), (3, mm_i v3), (4, mm_r v4)] [] := by
  unfold f_X6_isReady_42 at hf
  refine xr_aload 44 4 C dX6_isReady_42 rfl rfl ?_
  refine xr_aload_n 45 0 C dX6_isReady_44 rfl rfl rfl ?_
  obtain ⟨x45, h45, hf⟩ := mm_bd_e hf
  refine xr_getI 48 C cf_X6_47 rfl h45 dX6_isReady_45 rfl ?_
  refine xr_aload_n 49 2 C dX6_isReady_48 rfl rfl rfl ?_
  obtain ⟨u49, g49, hf⟩ := mm_bd_e hf
  obtain ⟨x49, h49, hf⟩ := mm_bd_e hf
  refine xr_callV 52 C [mm_i x45, mm_r v2] cm_X6_64 (fun l G cy => c_X5_isKnown l G cy h49) g49 rfl rfl ⟨⟨Nat.le_of_ble_eq_true rfl, Nat.le_of_ble_eq_true rfl⟩, (Nat.le_of_ble_eq_true rfl), (Nat.le_of_ble_eq_true rfl)⟩ (Nat.le_of_ble_eq_true rfl) dX6_isReady_49 rfl ?_
  refine xr_if_ne 57 55 C dX6_isReady_52 (by decide) rfl (fun hc => ?_) (fun hc => ?_)
  · replace hf := (if_neg hc).symm.trans hf
    refine xr_sub [0, 1, 2, 3] (lv2 := [(0, mm_r v0), (1, mm_r v1), (2, mm_r v2), (3, mm_i v3)]) rfl ?_
    exact w_X6_isReady_57 C hf ko
  · replace hf := (if_pos hc).symm.trans hf
    refine xr_sub [] (lv2 := []) rfl ?_
    obtain ⟨z, hf2, rfl⟩ := mm_mp_e hf
    clear hf
    have hf := hf2
    clear hf2
    exact w_X6_isReady_55 C hf ko
noncomputable def f_X6_isReady_25 (M : mm_M) (v0 : Option Nat) (v1 : Option Nat) (v2 : Option Nat) (v3 : Int32) : Option (Int32 ⊕ (Int32)) :=
  (mm_fR M v1 1 0).bind fun x27 =>
  (mm_aI M x27 12 v3).bind fun x31 =>
  (mm_rc M v0 7).bind fun u32 =>
  (f_X6_handAt M v0 x31).bind fun x32 =>
  if x32 = none then mm_mp (f_X6_isReady_55 M) else f_X6_isReady_42 M v0 v1 v2 v3 x32
set_option maxRecDepth 20000 in
theorem w_X6_isReady_25 {g : mm_c} (C : mm_ok g cX6_isReady "LessonCards$Learner" (some .boolean) "isReady" 5 4 88 0 0) {M : mm_M} {v0 : Option Nat} {v1 : Option Nat} {v2 : Option Nat} {v3 : Int32} {res : Int32 ⊕ (Int32)} (hf : f_X6_isReady_25 M v0 v1 v2 v3 = some res) (ko : (mm_o (h_X6_isReady_8 g M v0 v1 v2) (fun z => mm_q g 0 0 (some (mm_i z)) M)) res) : mm_X g 0 0 M 25 [(0, mm_r v0), (1, mm_r v1), (2, mm_r v2), (3, mm_i v3)] [] := by
  unfold f_X6_isReady_25 at hf
  refine xr_aload_n 26 0 C dX6_isReady_25 rfl rfl rfl ?_
  refine xr_aload_n 27 1 C dX6_isReady_26 rfl rfl rfl ?_
  obtain ⟨x27, h27, hf⟩ := mm_bd_e hf
  refine xr_getR 30 C cf_X6_129 rfl h27 dX6_isReady_27 rfl ?_
  refine xr_iload_n 31 3 C dX6_isReady_30 rfl rfl rfl ?_
  obtain ⟨x31, h31, hf⟩ := mm_bd_e hf
  refine xr_aldI 32 C h31 dX6_isReady_31 rfl ?_
  obtain ⟨u32, g32, hf⟩ := mm_bd_e hf
  obtain ⟨x32, h32, hf⟩ := mm_bd_e hf
  refine xr_callV 35 C [mm_i x31] cm_X6_39 (fun l G cy => c_X6_handAt l G cy h32) g32 rfl rfl ⟨⟨Nat.le_of_ble_eq_true rfl, Nat.le_of_ble_eq_true rfl⟩, (Nat.le_of_ble_eq_true rfl), (Nat.le_of_ble_eq_true rfl)⟩ (Nat.le_of_ble_eq_true rfl) dX6_isReady_32 rfl ?_
  refine xr_astore 37 C dX6_isReady_35 (by decide) rfl [(4, mm_r x32), (0, mm_r v0), (1, mm_r v1), (2, mm_r v2), (3, mm_i v3)] rfl ?_
  refine xr_aload 39 0 C dX6_isReady_37 rfl rfl ?_
  refine xr_ifnull 55 42 C dX6_isReady_39 (by decide) rfl (fun hc => ?_) (fun hc => ?_)
  · replace hf := (if_pos hc).symm.trans hf
    refine xr_sub [] (lv2 := []) rfl ?_
    obtain ⟨z, hf2, rfl⟩ := mm_mp_e hf
    clear hf
    have hf := hf2
    clear hf2
    exact w_X6_isReady_55 C hf ko
  · replace hf := (if_neg hc).symm.trans hf
    refine xr_sub [1, 2, 3, 4, 0] (lv2 := [(0, mm_r v0), (1, mm_r v1), (2, mm_r v2), (3, mm_i v3), (4, mm_r x32)]) rfl ?_
    exact w_X6_isReady_42 C hf ko
noncomputable def f_X6_isReady_63 (M : mm_M) : Option (Int32) :=
  some 1
set_option maxRecDepth 20000 in
theorem w_X6_isReady_63 {g : mm_c} (C : mm_ok g cX6_isReady "LessonCards$Learner" (some .boolean) "isReady" 5 4 88 0 0) {M : mm_M} {res : Int32} (hf : f_X6_isReady_63 M = some res) (ko : (fun z => mm_q g 0 0 (some (mm_i z)) M) res) : mm_X g 0 0 M 63 [] [] := by
  unfold f_X6_isReady_63 at hf
  refine xr_iconst 64 C (v := 1) dX6_isReady_63 (by decide) rfl ?_
  obtain rfl := Option.some.inj hf
  exact xr_zret C (by decide) ko ⟨(Nat.le_of_ble_eq_true rfl), (Nat.le_of_ble_eq_true rfl)⟩ dX6_isReady_64
noncomputable def f_X6_isReady_16 (M : mm_M) (v0 : Option Nat) (v1 : Option Nat) (v2 : Option Nat) (v3 : Int32) : Option (Int32 ⊕ (Int32)) :=
  (mm_fR M v1 1 0).bind fun x18 =>
  (mm_ln M x18).bind fun x21 =>
  if x21 ≤ v3 then mm_mp (f_X6_isReady_63 M) else f_X6_isReady_25 M v0 v1 v2 v3
set_option maxRecDepth 20000 in
theorem w_X6_isReady_16 {g : mm_c} (C : mm_ok g cX6_isReady "LessonCards$Learner" (some .boolean) "isReady" 5 4 88 0 0) {M : mm_M} {v0 : Option Nat} {v1 : Option Nat} {v2 : Option Nat} {v3 : Int32} {res : Int32 ⊕ (Int32)} (hf : f_X6_isReady_16 M v0 v1 v2 v3 = some res) (ko : (mm_o (h_X6_isReady_8 g M v0 v1 v2) (fun z => mm_q g 0 0 (some (mm_i z)) M)) res) : mm_X g 0 0 M 16 [(0, mm_r v0), (1, mm_r v1), (2, mm_r v2), (3, mm_i v3)] [] := by
  unfold f_X6_isReady_16 at hf
  refine xr_iload_n 17 3 C dX6_isReady_16 rfl rfl rfl ?_
  refine xr_aload_n 18 1 C dX6_isReady_17 rfl rfl rfl ?_
  obtain ⟨x18, h18, hf⟩ := mm_bd_e hf
  refine xr_getR 21 C cf_X6_129 rfl h18 dX6_isReady_18 rfl ?_
  obtain ⟨x21, h21, hf⟩ := mm_bd_e hf
  refine xr_alen 22 C h21 dX6_isReady_21 rfl ?_
  refine xr_icmp_ge 63 25 C dX6_isReady_22 (by decide) rfl (fun hc => ?_) (fun hc => ?_)
  · replace hf := (if_pos hc).symm.trans hf
    refine xr_sub [] (lv2 := []) rfl ?_
    obtain ⟨z, hf2, rfl⟩ := mm_mp_e hf
    clear hf
    have hf := hf2
    clear hf2
    exact w_X6_isReady_63 C hf ko
  · replace hf := (if_neg hc).symm.trans hf
    exact w_X6_isReady_25 C hf ko
noncomputable def f_X6_isReady_8 (M : mm_M) (v0 : Option Nat) (v1 : Option Nat) (v2 : Option Nat) (v3 : Int32) : Option (Int32 ⊕ (Int32)) :=
  (mm_fI M v1 1 1).bind fun x10 =>
  if x10 ≤ v3 then mm_mp (f_X6_isReady_63 M) else f_X6_isReady_16 M v0 v1 v2 v3
set_option maxRecDepth 20000 in
theorem w_X6_isReady_8 {g : mm_c} (C : mm_ok g cX6_isReady "LessonCards$Learner" (some .boolean) "isReady" 5 4 88 0 0) {M : mm_M} {v0 : Option Nat} {v1 : Option Nat} {v2 : Option Nat} {v3 : Int32} {res : Int32 ⊕ (Int32)} (hf : f_X6_isReady_8 M v0 v1 v2 v3 = some res) (ko : (mm_o (h_X6_isReady_8 g M v0 v1 v2) (fun z => mm_q g 0 0 (some (mm_i z)) M)) res) : mm_X g 0 0 M 8 [(0, mm_r v0), (1, mm_r v1), (2, mm_r v2), (3, mm_i v3)] [] := by
  unfold f_X6_isReady_8 at hf
  refine xr_iload_n 9 3 C dX6_isReady_8 rfl rfl rfl ?_
  refine xr_aload_n 10 1 C dX6_isReady_9 rfl rfl rfl ?_
  obtain ⟨x10, h10, hf⟩ := mm_bd_e hf
  refine xr_getI 13 C cf_X6_124 rfl h10 dX6_isReady_10 rfl ?_
  refine xr_icmp_ge 63 16 C dX6_isReady_13 (by decide) rfl (fun hc => ?_) (fun hc => ?_)
  · replace hf := (if_pos hc).symm.trans hf
    refine xr_sub [] (lv2 := []) rfl ?_
    obtain ⟨z, hf2, rfl⟩ := mm_mp_e hf
    clear hf
    have hf := hf2
    clear hf2
    exact w_X6_isReady_63 C hf ko
  · replace hf := (if_neg hc).symm.trans hf
    exact w_X6_isReady_16 C hf ko
noncomputable def f_X6_isReady_8w (M : mm_M) (v0 : Option Nat) (v1 : Option Nat) (v2 : Option Nat) (v3 : Int32) : Option (Int32) := mm_w (fun x => f_X6_isReady_8 M v0 v1 v2 x) v3
theorem l_X6_isReady_8 {g : mm_c} (C : mm_ok g cX6_isReady "LessonCards$Learner" (some .boolean) "isReady" 5 4 88 0 0) {M : mm_M} {v0 : Option Nat} {v1 : Option Nat} {v2 : Option Nat} {v3 : Int32} {res : Int32} (hf : f_X6_isReady_8w M v0 v1 v2 v3 = some res) (ko : (fun z => mm_q g 0 0 (some (mm_i z)) M) res) : mm_X g 0 0 M 8 [(0, mm_r v0), (1, mm_r v1), (2, mm_r v2), (3, mm_i v3)] [] :=
  mm_w_W (body := fun x => f_X6_isReady_8 M v0 v1 v2 x) (Wh := h_X6_isReady_8 g M v0 v1 v2) (ok := (fun z => mm_q g 0 0 (some (mm_i z)) M)) (x := v3) (fun x r hb ho => w_X6_isReady_8 C hb ho) hf ko
noncomputable def f_X6_isReady_6 (M : mm_M) (v0 : Option Nat) (v1 : Option Nat) (v2 : Option Nat) : Option (Int32) :=
  f_X6_isReady_8w M v0 v1 v2 0
set_option maxRecDepth 20000 in
theorem w_X6_isReady_6 {g : mm_c} (C : mm_ok g cX6_isReady "LessonCards$Learner" (some .boolean) "isReady" 5 4 88 0 0) {M : mm_M} {v0 : Option Nat} {v1 : Option Nat} {v2 : Option Nat} {res : Int32} (hf : f_X6_isReady_6 M v0 v1 v2 = some res) (ko : (fun z => mm_q g 0 0 (some (mm_i z)) M) res) : mm_X g 0 0 M 6 [(0, mm_r v0), (1, mm_r v1), (2, mm_r v2)] [] := by
  unfold f_X6_isReady_6 at hf
  refine xr_iconst 7 C (v := 0) dX6_isReady_6 (by decide) rfl ?_
  refine xr_istore_n 8 C dX6_isReady_7 rfl (by decide) rfl [(3, mm_i 0), (0, mm_r v0), (1, mm_r v1), (2, mm_r v2)] rfl ?_
  refine xr_sub [1, 2, 3, 0] (lv2 := [(0, mm_r v0), (1, mm_r v1), (2, mm_r v2), (3, mm_i 0)]) rfl ?_
  exact l_X6_isReady_8 C hf ko
noncomputable def f_X6_isReady_0 (M : mm_M) (v0 : Option Nat) (v1 : Option Nat) (v2 : Option Nat) : Option (Int32) :=
  if v1 = none then f_X6_isReady_4 M else f_X6_isReady_6 M v0 v1 v2
set_option maxRecDepth 20000 in
theorem w_X6_isReady_0 {g : mm_c} (C : mm_ok g cX6_isReady "LessonCards$Learner" (some .boolean) "isReady" 5 4 88 0 0) {M : mm_M} {v0 : Option Nat} {v1 : Option Nat} {v2 : Option Nat} {res : Int32} (hf : f_X6_isReady_0 M v0 v1 v2 = some res) (ko : (fun z => mm_q g 0 0 (some (mm_i z)) M) res) : mm_X g 0 0 M 0 [(0, mm_r v0), (1, mm_r v1), (2, mm_r v2)] [] := by
  unfold f_X6_isReady_0 at hf
  refine xr_aload_n 1 1 C dX6_isReady_0 rfl rfl rfl ?_
  refine xr_ifnonnull 6 4 C dX6_isReady_1 (by decide) rfl (fun hc => ?_) (fun hc => ?_)
  · replace hf := (if_neg hc).symm.trans hf
    exact w_X6_isReady_6 C hf ko
  · replace hf := (if_pos hc).symm.trans hf
    refine xr_sub [] (lv2 := []) rfl ?_
    exact w_X6_isReady_4 C hf ko
noncomputable def f_X6_isReady (M : mm_M) (v0 : Option Nat) (v1 : Option Nat) (v2 : Option Nat) : Option (Int32) := f_X6_isReady_0 M v0 v1 v2
theorem c_X6_isReady (l : Launch) (G : va_G) (cy : Nat → ClassId) {M : mm_M} {v0 : Option Nat} {v1 : Option Nat} {v2 : Option Nat} {r : Int32} (hf : f_X6_isReady M v0 v1 v2 = some r) : mm_Met l yX6_isReady cX6_isReady 5 (some .boolean) 4 88 0 0 G cy [mm_r v0, mm_r v1, mm_r v2] M (some (mm_i r)) M :=
  mm_enter (by decide) (Nat.le_of_ble_eq_true rfl) (fun p e R s m args below meth c Q C hq => xr_sub [0, 1, 2] (lv2 := [(0, mm_r v0), (1, mm_r v1), (2, mm_r v2)]) rfl (w_X6_isReady_0 C hf hq))
def h_X6_askFresh_6 (g : mm_c) (v0 : Option Nat) (v2 : Option Nat) (v3 : Option Nat) : (mm_M × Int32 × Int32) → Prop := fun x => mm_X g 0 0 x.1 6 [(0, mm_r v0), (2, mm_r v2), (3, mm_r v3), (4, mm_i x.2.1), (5, mm_i x.2.2)] []
noncomputable def f_X6_askFresh_82 (M : mm_M) (v0 : Option Nat) (v2 : Option Nat) (v3 : Option Nat) (v4 : Int32) (v5 : Int32) : Option ((mm_M × Int32 × Int32) ⊕ (mm_M)) :=
  some (.inl (M, v4, (v5 + 1)))
set_option maxRecDepth 20000 in
theorem w_X6_askFresh_82 {g : mm_c} (C : mm_ok g cX6_askFresh "LessonCards$Learner" none "askFresh" 7 5 112 0 0) {M : mm_M} {v0 : Option Nat} {v2 : Option Nat} {v3 : Option Nat} {v4 : Int32} {v5 : Int32} {res : (mm_M × Int32 × Int32) ⊕ (mm_M)} (hf : f_X6_askFresh_82 M v0 v2 v3 v4 v5 = some res) (ko : (mm_o (h_X6_askFresh_6 g v0 v2 v3) (fun z => mm_q g 0 0 none z)) res) : mm_X g 0 0 M 82 [(0, mm_r v0), (2, mm_r v2), (3, mm_r v3), (4, mm_i v4), (5, mm_i v5)] [] := by
  unfold f_X6_askFresh_82 at hf
  refine xr_iinc 85 4 C dX6_askFresh_82 rfl (by decide) (v := 1) (by decide) rfl [(5, mm_i (v5 + 1)), (0, mm_r v0), (2, mm_r v2), (3, mm_r v3), (4, mm_i v4)] rfl ?_
  refine xr_goto 6 C dX6_askFresh_85 (by decide) ?_
  refine xr_sub [1, 2, 3, 4, 0] (lv2 := [(0, mm_r v0), (2, mm_r v2), (3, mm_r v3), (4, mm_i v4), (5, mm_i (v5 + 1))]) rfl ?_
  obtain rfl := Option.some.inj hf
  exact ko
noncomputable def f_X6_askFresh_68 (M : mm_M) (v0 : Option Nat) (v2 : Option Nat) (v3 : Option Nat) (v4 : Int32) (v5 : Int32) (v6 : Int32) : Option ((mm_M × Int32 × Int32) ⊕ (mm_M)) :=
  (f_X9_placeOf M v5 v6).bind fun x73 =>
  (mm_rc M v0 7).bind fun u76 =>
  (f_X6_append M v0 x73).bind fun M76 =>
  f_X6_askFresh_82 M76 v0 v2 v3 (v4 + (-1)) v5
set_option maxRecDepth 20000 in
theorem w_X6_askFresh_68 {g : mm_c} (C : mm_ok g cX6_askFresh "LessonCards$Learner" none "askFresh" 7 5 112 0 0) {M : mm_M} {v0 : Option Nat} {v2 : Option Nat} {v3 : Option Nat} {v4 : Int32} {v5 : Int32} {v6 : Int32} {res : (mm_M × Int32 × Int32) ⊕ (mm_M)} (hf : f_X6_askFresh_68 M v0 v2 v3 v4 v5 v6 = some res) (ko : (mm_o (h_X6_askFresh_6 g v0 v2 v3) (fun z => mm_q g 0 0 none z)) res) : mm_X g 0 0 M 68 [(0, mm_r v0), (2, mm_r v2), (3, mm_r v3), (4, mm_i v4), (5, mm_i v5), (6, mm_i v6)] [] := by
  unfold f_X6_askFresh_68 at hf
  refine xr_aload_n 69 0 C dX6_askFresh_68 rfl rfl rfl ?_
  refine xr_iload 71 4 C dX6_askFresh_69 rfl rfl ?_
  refine xr_iload 73 5 C dX6_askFresh_71 rfl rfl ?_
  obtain ⟨x73, h73, hf⟩ := mm_bd_e hf
  refine xr_callS 76 C [mm_i v5, mm_i v6] cm_X6_82 (fun l G cy => c_X9_placeOf l G cy h73) rfl rfl ⟨⟨Nat.le_of_ble_eq_true rfl, Nat.le_of_ble_eq_true rfl⟩, (Nat.le_of_ble_eq_true rfl), (Nat.le_of_ble_eq_true rfl)⟩ (Nat.le_of_ble_eq_true rfl) dX6_askFresh_73 rfl ?_
  obtain ⟨u76, g76, hf⟩ := mm_bd_e hf
  obtain ⟨M76, h76, hf⟩ := mm_bd_e hf
  refine xr_callV 79 C [mm_i x73] cm_X6_86 (fun l G cy => c_X6_append l G cy h76) g76 rfl rfl ⟨⟨Nat.le_of_ble_eq_true rfl, Nat.le_of_ble_eq_true rfl⟩, (Nat.le_of_ble_eq_true rfl), (Nat.le_of_ble_eq_true rfl)⟩ (Nat.le_of_ble_eq_true rfl) dX6_askFresh_76 rfl ?_
  refine xr_iinc 82 3 C dX6_askFresh_79 rfl (by decide) (v := (-1)) (by decide) rfl [(4, mm_i (v4 + (-1))), (0, mm_r v0), (2, mm_r v2), (3, mm_r v3), (5, mm_i v5), (6, mm_i v6)] rfl ?_
  refine xr_sub [1, 2, 3, 0, 4] (lv2 := [(0, mm_r v0), (2, mm_r v2), (3, mm_r v3), (4, mm_i (v4 + (-1))), (5, mm_i v5)]) rfl ?_
  exact w_X6_askFresh_82 C hf ko
noncomputable def f_X6_askFresh_54 (M : mm_M) (v0 : Option Nat) (v2 : Option Nat) (v3 : Option Nat) (v4 : Int32) (v5 : Int32) (v6 : Int32) : Option ((mm_M × Int32 × Int32) ⊕ (mm_M)) :=
  (mm_rc M v2 3).bind fun u58 =>
  (f_X2_cardAt M v2 v5).bind fun x58 =>
  (mm_rc M v0 7).bind fun u62 =>
  (f_X6_isReady M v0 x58 v3).bind fun x62 =>
  if x62 = 0 then f_X6_askFresh_82 M v0 v2 v3 v4 v5 else f_X6_askFresh_68 M v0 v2 v3 v4 v5 v6
set_option maxRecDepth 20000 in
theorem w_X6_askFresh_54 {g : mm_c} (C : mm_ok g cX6_askFresh "LessonCards$Learner" none "askFresh" 7 5 112 0 0) {M : mm_M} {v0 : Option Nat} {v2 : Option Nat} {v3 : Option Nat} {v4 : Int32} {v5 : Int32} {v6 : Int32} {res : (mm_M × Int32 × Int32) ⊕ (mm_M)} (hf : f_X6_askFresh_54 M v0 v2 v3 v4 v5 v6 = some res) (ko : (mm_o (h_X6_askFresh_6 g v0 v2 v3) (fun z => mm_q g 0 0 none z)) res) : mm_X g 0 0 M 54 [(0, mm_r v0), (2, mm_r v2), (3, mm_r v3), (4, mm_i v4), (5, mm_i v5), (6, mm_i v6)] [] := by
  unfold f_X6_askFresh_54 at hf
  refine xr_aload_n 55 0 C dX6_askFresh_54 rfl rfl rfl ?_
  refine xr_aload_n 56 1 C dX6_askFresh_55 rfl rfl rfl ?_
  refine xr_iload 58 4 C dX6_askFresh_56 rfl rfl ?_
  obtain ⟨u58, g58, hf⟩ := mm_bd_e hf
  obtain ⟨x58, h58, hf⟩ := mm_bd_e hf
  refine xr_callV 61 C [mm_i v5] cm_X6_114 (fun l G cy => c_X2_cardAt l G cy h58) g58 rfl rfl ⟨⟨Nat.le_of_ble_eq_true rfl, Nat.le_of_ble_eq_true rfl⟩, (Nat.le_of_ble_eq_true rfl), (Nat.le_of_ble_eq_true rfl)⟩ (Nat.le_of_ble_eq_true rfl) dX6_askFresh_58 rfl ?_
  refine xr_aload_n 62 2 C dX6_askFresh_61 rfl rfl rfl ?_
  obtain ⟨u62, g62, hf⟩ := mm_bd_e hf
  obtain ⟨x62, h62, hf⟩ := mm_bd_e hf
  refine xr_callV 65 C [mm_r x58, mm_r v3] cm_X6_120 (fun l G cy => c_X6_isReady l G cy h62) g62 rfl rfl ⟨⟨Nat.le_of_ble_eq_true rfl, Nat.le_of_ble_eq_true rfl⟩, (Nat.le_of_ble_eq_true rfl), (Nat.le_of_ble_eq_true rfl)⟩ (Nat.le_of_ble_eq_true rfl) dX6_askFresh_62 rfl ?_
  refine xr_if_eq 82 68 C dX6_askFresh_65 (by decide) rfl (fun hc => ?_) (fun hc => ?_)
  · replace hf := (if_pos hc).symm.trans hf
    refine xr_sub [0, 1, 2, 3, 4] (lv2 := [(0, mm_r v0), (2, mm_r v2), (3, mm_r v3), (4, mm_i v4), (5, mm_i v5)]) rfl ?_
    exact w_X6_askFresh_82 C hf ko
  · replace hf := (if_neg hc).symm.trans hf
    exact w_X6_askFresh_68 C hf ko
noncomputable def f_X6_askFresh_45 (M : mm_M) (v0 : Option Nat) (v2 : Option Nat) (v3 : Option Nat) (v4 : Int32) (v5 : Int32) (v6 : Int32) : Option ((mm_M × Int32 × Int32) ⊕ (mm_M)) :=
  (mm_rc M v0 7).bind fun u48 =>
  (f_X6_hasCard M v0 v5).bind fun x48 =>
  if x48 = 0 then f_X6_askFresh_54 M v0 v2 v3 v4 v5 v6 else f_X6_askFresh_82 M v0 v2 v3 v4 v5
set_option maxRecDepth 20000 in
theorem w_X6_askFresh_45 {g : mm_c} (C : mm_ok g cX6_askFresh "LessonCards$Learner" none "askFresh" 7 5 112 0 0) {M : mm_M} {v0 : Option Nat} {v2 : Option Nat} {v3 : Option Nat} {v4 : Int32} {v5 : Int32} {v6 : Int32} {res : (mm_M × Int32 × Int32) ⊕ (mm_M)} (hf : f_X6_askFresh_45 M v0 v2 v3 v4 v5 v6 = some res) (ko : (mm_o (h_X6_askFresh_6 g v0 v2 v3) (fun z => mm_q g 0 0 none z)) res) : mm_X g 0 0 M 45 [(0, mm_r v0), (2, mm_r v2), (3, mm_r v3), (4, mm_i v4), (5, mm_i v5), (6, mm_i v6)] [] := by
  unfold f_X6_askFresh_45 at hf
  refine xr_aload_n 46 0 C dX6_askFresh_45 rfl rfl rfl ?_
  refine xr_iload 48 4 C dX6_askFresh_46 rfl rfl ?_
  obtain ⟨u48, g48, hf⟩ := mm_bd_e hf
  obtain ⟨x48, h48, hf⟩ := mm_bd_e hf
  refine xr_callV 51 C [mm_i v5] cm_X6_110 (fun l G cy => c_X6_hasCard l G cy h48) g48 rfl rfl ⟨⟨Nat.le_of_ble_eq_true rfl, Nat.le_of_ble_eq_true rfl⟩, (Nat.le_of_ble_eq_true rfl), (Nat.le_of_ble_eq_true rfl)⟩ (Nat.le_of_ble_eq_true rfl) dX6_askFresh_48 rfl ?_
  refine xr_if_ne 82 54 C dX6_askFresh_51 (by decide) rfl (fun hc => ?_) (fun hc => ?_)
  · replace hf := (if_neg hc).symm.trans hf
    refine xr_sub [0, 1, 2, 3, 4] (lv2 := [(0, mm_r v0), (2, mm_r v2), (3, mm_r v3), (4, mm_i v4), (5, mm_i v5)]) rfl ?_
    exact w_X6_askFresh_82 C hf ko
  · replace hf := (if_pos hc).symm.trans hf
    exact w_X6_askFresh_54 C hf ko
noncomputable def f_X6_askFresh_23 (M : mm_M) (v0 : Option Nat) (v2 : Option Nat) (v3 : Option Nat) (v4 : Int32) (v5 : Int32) : Option ((mm_M × Int32 × Int32) ⊕ (mm_M)) :=
  (mm_fR M v0 7 0).bind fun x24 =>
  (mm_rc M x24 0).bind fun u29 =>
  (f_Jx4a65c_get_915e3 M x24 v5).bind fun x29 =>
  (mm_cc M x29 6).bind fun u32 =>
  (mm_rc M x29 6).bind fun u35 =>
  (f_X5_firstFresh M x29).bind fun x35 =>
  if x35 < 0 then f_X6_askFresh_82 M v0 v2 v3 v4 v5 else f_X6_askFresh_45 M v0 v2 v3 v4 v5 x35
set_option maxRecDepth 20000 in
theorem w_X6_askFresh_23 {g : mm_c} (C : mm_ok g cX6_askFresh "LessonCards$Learner" none "askFresh" 7 5 112 0 0) {M : mm_M} {v0 : Option Nat} {v2 : Option Nat} {v3 : Option Nat} {v4 : Int32} {v5 : Int32} {res : (mm_M × Int32 × Int32) ⊕ (mm_M)} (hf : f_X6_askFresh_23 M v0 v2 v3 v4 v5 = some res) (ko : (mm_o (h_X6_askFresh_6 g v0 v2 v3) (fun z => mm_q g 0 0 none z)) res) : mm_X g 0 0 M 23 [(0, mm_r v0), (2, mm_r v2), (3, mm_r v3), (4, mm_i v4), (5, mm_i v5)] [] := by
  unfold f_X6_askFresh_23 at hf
  refine xr_aload_n 24 0 C dX6_askFresh_23 rfl rfl rfl ?_
  obtain ⟨x24, h24, hf⟩ := mm_bd_e hf
  refine xr_getR 27 C cf_X6_12 rfl h24 dX6_askFresh_24 rfl ?_
  refine xr_iload 29 4 C dX6_askFresh_27 rfl rfl ?_
  obtain ⟨u29, g29, hf⟩ := mm_bd_e hf
  obtain ⟨x29, h29, hf⟩ := mm_bd_e hf
  refine xr_callV 32 C [mm_i v5] cm_X6_35 (fun l G cy => c_Jx4a65c_get_915e3 l G cy h29) g29 rfl rfl ⟨⟨Nat.le_of_ble_eq_true rfl, Nat.le_of_ble_eq_true rfl⟩, (Nat.le_of_ble_eq_true rfl), (Nat.le_of_ble_eq_true rfl)⟩ (Nat.le_of_ble_eq_true rfl) dX6_askFresh_29 rfl ?_
  obtain ⟨u32, h32, hf⟩ := mm_bd_e hf
  refine xr_cast 35 C (ci := 6) rfl (by decide) wd_259 h32 dX6_askFresh_32 rfl ?_
  obtain ⟨u35, g35, hf⟩ := mm_bd_e hf
  obtain ⟨x35, h35, hf⟩ := mm_bd_e hf
  refine xr_callV 38 C [] cm_X6_107 (fun l G cy => c_X5_firstFresh l G cy h35) g35 rfl rfl ⟨⟨Nat.le_of_ble_eq_true rfl, Nat.le_of_ble_eq_true rfl⟩, (Nat.le_of_ble_eq_true rfl), (Nat.le_of_ble_eq_true rfl)⟩ (Nat.le_of_ble_eq_true rfl) dX6_askFresh_35 rfl ?_
  refine xr_istore 40 C dX6_askFresh_38 (by decide) rfl [(6, mm_i x35), (0, mm_r v0), (2, mm_r v2), (3, mm_r v3), (4, mm_i v4), (5, mm_i v5)] rfl ?_
  refine xr_iload 42 0 C dX6_askFresh_40 rfl rfl ?_
  refine xr_if_lt 82 45 C dX6_askFresh_42 (by decide) rfl (fun hc => ?_) (fun hc => ?_)
  · replace hf := (if_pos hc).symm.trans hf
    refine xr_sub [1, 2, 3, 4, 5] (lv2 := [(0, mm_r v0), (2, mm_r v2), (3, mm_r v3), (4, mm_i v4), (5, mm_i v5)]) rfl ?_
    exact w_X6_askFresh_82 C hf ko
  · replace hf := (if_neg hc).symm.trans hf
    refine xr_sub [1, 2, 3, 4, 5, 0] (lv2 := [(0, mm_r v0), (2, mm_r v2), (3, mm_r v3), (4, mm_i v4), (5, mm_i v5), (6, mm_i x35)]) rfl ?_
    exact w_X6_askFresh_45 C hf ko
noncomputable def f_X6_askFresh_88 (M : mm_M) : Option (mm_M) :=
  some M
set_option maxRecDepth 20000 in
theorem w_X6_askFresh_88 {g : mm_c} (C : mm_ok g cX6_askFresh "LessonCards$Learner" none "askFresh" 7 5 112 0 0) {M : mm_M} {res : mm_M} (hf : f_X6_askFresh_88 M = some res) (ko : (fun z => mm_q g 0 0 none z) res) : mm_X g 0 0 M 88 [] [] := by
  unfold f_X6_askFresh_88 at hf
  obtain rfl := Option.some.inj hf
  exact xr_vret C ko ⟨(Nat.le_of_ble_eq_true rfl), (Nat.le_of_ble_eq_true rfl)⟩ dX6_askFresh_88
noncomputable def f_X6_askFresh_18 (M : mm_M) (v0 : Option Nat) (v2 : Option Nat) (v3 : Option Nat) (v4 : Int32) (v5 : Int32) : Option ((mm_M × Int32 × Int32) ⊕ (mm_M)) :=
  if v4 ≤ 0 then mm_mp (f_X6_askFresh_88 M) else f_X6_askFresh_23 M v0 v2 v3 v4 v5
set_option maxRecDepth 20000 in
theorem w_X6_askFresh_18 {g : mm_c} (C : mm_ok g cX6_askFresh "LessonCards$Learner" none "askFresh" 7 5 112 0 0) {M : mm_M} {v0 : Option Nat} {v2 : Option Nat} {v3 : Option Nat} {v4 : Int32} {v5 : Int32} {res : (mm_M × Int32 × Int32) ⊕ (mm_M)} (hf : f_X6_askFresh_18 M v0 v2 v3 v4 v5 = some res) (ko : (mm_o (h_X6_askFresh_6 g v0 v2 v3) (fun z => mm_q g 0 0 none z)) res) : mm_X g 0 0 M 18 [(0, mm_r v0), (2, mm_r v2), (3, mm_r v3), (4, mm_i v4), (5, mm_i v5)] [] := by
  unfold f_X6_askFresh_18 at hf
  refine xr_iload 20 3 C dX6_askFresh_18 rfl rfl ?_
  refine xr_if_le 88 23 C dX6_askFresh_20 (by decide) rfl (fun hc => ?_) (fun hc => ?_)
  · replace hf := (if_pos hc).symm.trans hf
    refine xr_sub [] (lv2 := []) rfl ?_
    obtain ⟨z, hf2, rfl⟩ := mm_mp_e hf
    clear hf
    have hf := hf2
    clear hf2
    exact w_X6_askFresh_88 C hf ko
  · replace hf := (if_neg hc).symm.trans hf
    exact w_X6_askFresh_23 C hf ko
noncomputable def f_X6_askFresh_6 (M : mm_M) (v0 : Option Nat) (v2 : Option Nat) (v3 : Option Nat) (v4 : Int32) (v5 : Int32) : Option ((mm_M × Int32 × Int32) ⊕ (mm_M)) :=
  (mm_fR M v0 7 0).bind fun x9 =>
  (mm_rc M x9 0).bind fun u12 =>
  (f_Jx4a65c_size_8abf5 M x9).bind fun x12 =>
  if x12 ≤ v5 then mm_mp (f_X6_askFresh_88 M) else f_X6_askFresh_18 M v0 v2 v3 v4 v5
set_option maxRecDepth 20000 in
theorem w_X6_askFresh_6 {g : mm_c} (C : mm_ok g cX6_askFresh "LessonCards$Learner" none "askFresh" 7 5 112 0 0) {M : mm_M} {v0 : Option Nat} {v2 : Option Nat} {v3 : Option Nat} {v4 : Int32} {v5 : Int32} {res : (mm_M × Int32 × Int32) ⊕ (mm_M)} (hf : f_X6_askFresh_6 M v0 v2 v3 v4 v5 = some res) (ko : (mm_o (h_X6_askFresh_6 g v0 v2 v3) (fun z => mm_q g 0 0 none z)) res) : mm_X g 0 0 M 6 [(0, mm_r v0), (2, mm_r v2), (3, mm_r v3), (4, mm_i v4), (5, mm_i v5)] [] := by
  unfold f_X6_askFresh_6 at hf
  refine xr_iload 8 4 C dX6_askFresh_6 rfl rfl ?_
  refine xr_aload_n 9 0 C dX6_askFresh_8 rfl rfl rfl ?_
  obtain ⟨x9, h9, hf⟩ := mm_bd_e hf
  refine xr_getR 12 C cf_X6_12 rfl h9 dX6_askFresh_9 rfl ?_
  obtain ⟨u12, g12, hf⟩ := mm_bd_e hf
  obtain ⟨x12, h12, hf⟩ := mm_bd_e hf
  refine xr_callV 15 C [] cm_X6_31 (fun l G cy => c_Jx4a65c_size_8abf5 l G cy h12) g12 rfl rfl ⟨⟨Nat.le_of_ble_eq_true rfl, Nat.le_of_ble_eq_true rfl⟩, (Nat.le_of_ble_eq_true rfl), (Nat.le_of_ble_eq_true rfl)⟩ (Nat.le_of_ble_eq_true rfl) dX6_askFresh_12 rfl ?_
  refine xr_icmp_ge 88 18 C dX6_askFresh_15 (by decide) rfl (fun hc => ?_) (fun hc => ?_)
  · replace hf := (if_pos hc).symm.trans hf
    refine xr_sub [] (lv2 := []) rfl ?_
    obtain ⟨z, hf2, rfl⟩ := mm_mp_e hf
    clear hf
    have hf := hf2
    clear hf2
    exact w_X6_askFresh_88 C hf ko
  · replace hf := (if_neg hc).symm.trans hf
    exact w_X6_askFresh_18 C hf ko
noncomputable def f_X6_askFresh_6w (M : mm_M) (v0 : Option Nat) (v2 : Option Nat) (v3 : Option Nat) (v4 : Int32) (v5 : Int32) : Option (mm_M) := mm_w (fun x => f_X6_askFresh_6 x.1 v0 v2 v3 x.2.1 x.2.2) (M, v4, v5)
theorem l_X6_askFresh_6 {g : mm_c} (C : mm_ok g cX6_askFresh "LessonCards$Learner" none "askFresh" 7 5 112 0 0) {M : mm_M} {v0 : Option Nat} {v2 : Option Nat} {v3 : Option Nat} {v4 : Int32} {v5 : Int32} {res : mm_M} (hf : f_X6_askFresh_6w M v0 v2 v3 v4 v5 = some res) (ko : (fun z => mm_q g 0 0 none z) res) : mm_X g 0 0 M 6 [(0, mm_r v0), (2, mm_r v2), (3, mm_r v3), (4, mm_i v4), (5, mm_i v5)] [] :=
  mm_w_W (body := fun x => f_X6_askFresh_6 x.1 v0 v2 v3 x.2.1 x.2.2) (Wh := h_X6_askFresh_6 g v0 v2 v3) (ok := (fun z => mm_q g 0 0 none z)) (x := (M, v4, v5)) (fun x r hb ho => w_X6_askFresh_6 C hb ho) hf ko
noncomputable def f_X6_askFresh_0 (M : mm_M) (v0 : Option Nat) (v1 : Int32) (v2 : Option Nat) (v3 : Option Nat) : Option (mm_M) :=
  f_X6_askFresh_6w M v0 v2 v3 v1 0
set_option maxRecDepth 20000 in
theorem w_X6_askFresh_0 {g : mm_c} (C : mm_ok g cX6_askFresh "LessonCards$Learner" none "askFresh" 7 5 112 0 0) {M : mm_M} {v0 : Option Nat} {v1 : Int32} {v2 : Option Nat} {v3 : Option Nat} {res : mm_M} (hf : f_X6_askFresh_0 M v0 v1 v2 v3 = some res) (ko : (fun z => mm_q g 0 0 none z) res) : mm_X g 0 0 M 0 [(0, mm_r v0), (1, mm_i v1), (2, mm_r v2), (3, mm_r v3)] [] := by
  unfold f_X6_askFresh_0 at hf
  refine xr_iload_n 1 1 C dX6_askFresh_0 rfl rfl rfl ?_
  refine xr_istore 3 C dX6_askFresh_1 (by decide) rfl [(4, mm_i v1), (0, mm_r v0), (1, mm_i v1), (2, mm_r v2), (3, mm_r v3)] rfl ?_
  refine xr_iconst 4 C (v := 0) dX6_askFresh_3 (by decide) rfl ?_
  refine xr_istore 6 C dX6_askFresh_4 (by decide) rfl [(5, mm_i 0), (4, mm_i v1), (0, mm_r v0), (1, mm_i v1), (2, mm_r v2), (3, mm_r v3)] rfl ?_
  refine xr_sub [2, 4, 5, 1, 0] (lv2 := [(0, mm_r v0), (2, mm_r v2), (3, mm_r v3), (4, mm_i v1), (5, mm_i 0)]) rfl ?_
  exact l_X6_askFresh_6 C hf ko
noncomputable def f_X6_askFresh (M : mm_M) (v0 : Option Nat) (v1 : Int32) (v2 : Option Nat) (v3 : Option Nat) : Option (mm_M) := f_X6_askFresh_0 M v0 v1 v2 v3
theorem c_X6_askFresh (l : Launch) (G : va_G) (cy : Nat → ClassId) {M : mm_M} {v0 : Option Nat} {v1 : Int32} {v2 : Option Nat} {v3 : Option Nat} {M1 : mm_M} (hf : f_X6_askFresh M v0 v1 v2 v3 = some M1) : mm_Met l yX6_askFresh cX6_askFresh 7 none 5 112 0 0 G cy [mm_r v0, mm_i v1, mm_r v2, mm_r v3] M none M1 :=
  mm_enter (by decide) (Nat.le_of_ble_eq_true rfl) (fun p e R s m args below meth c Q C hq => xr_sub [0, 1, 2, 3] (lv2 := [(0, mm_r v0), (1, mm_i v1), (2, mm_r v2), (3, mm_r v3)]) rfl (w_X6_askFresh_0 C hf hq))
noncomputable def f_X7_init_0 (M : mm_M) (v0 : Nat) : Option (mm_M) :=
  (mm_na M 13 8 8).bind fun M7 =>
  (mm_pR M7 (some v0) 8 0 (some (mm_n M))).bind fun M9 =>
  (mm_pZ M9 (some v0) 8 5 1).bind fun M14 =>
  some M14
set_option maxRecDepth 20000 in
theorem w_X7_init_0 {g : mm_c} (C : mm_ok g cX7_init "LessonCards$LevelTest" none "<init>" 1 1 20 1 8) {M : mm_M} {v0 : Nat} {res : mm_M} (hf : f_X7_init_0 M v0 = some res) (ko : (fun z => mm_q g 1 8 none z) res) : mm_X g 0 0 M 0 [(0, mm_r (some v0))] [] := by
  unfold f_X7_init_0 at hf
  refine xr_aload_n 1 0 C dX7_init_0 rfl rfl rfl ?_
  refine xr_oinit 4 C wd_186 wd_72 wd_73 ⟨Nat.le_of_ble_eq_true rfl, Nat.le_of_ble_eq_true rfl⟩ (Nat.le_of_ble_eq_true rfl) dX7_init_1 rfl ?_
  refine xr_aload_n 5 0 C dX7_init_4 rfl rfl rfl ?_
  refine xr_bipush 7 C (v := 8) dX7_init_5 (by decide) rfl ?_
  obtain ⟨M7, h7, hf⟩ := mm_bd_e hf
  refine xr_newa 9 C (at_ := .long) (lim := 8) (by decide) (by decide) wd_208 h7 dX7_init_7 ⟨(Nat.le_of_ble_eq_true rfl), (Nat.le_of_ble_eq_true rfl)⟩ rfl ?_
  obtain ⟨M9, h9, hf⟩ := mm_bd_e hf
  refine xr_putR 12 C cf_X7_9 (fun _ => ⟨rfl, co_8_0⟩) h9 dX7_init_9 rfl ?_
  refine xr_aload_n 13 0 C dX7_init_12 rfl rfl rfl ?_
  refine xr_iconst 14 C (v := 1) dX7_init_13 (by decide) rfl ?_
  obtain ⟨M14, h14, hf⟩ := mm_bd_e hf
  refine xr_putZ 17 C cf_X7_15 (fun h => by cases h) h14 dX7_init_14 rfl ?_
  obtain rfl := Option.some.inj hf
  exact xr_vret C ko ⟨(Nat.le_of_ble_eq_true rfl), (Nat.le_of_ble_eq_true rfl)⟩ dX7_init_17
noncomputable def f_X7_init (M : mm_M) (v0 : Nat) : Option (mm_M) := f_X7_init_0 M v0
theorem c_X7_init (l : Launch) (G : va_G) (cy : Nat → ClassId) {M : mm_M} {v0 : Nat} {M1 : mm_M} (hf : f_X7_init M v0 = some M1) : mm_Met l yX7_init cX7_init 1 none 1 20 1 8 G cy [mm_r (some v0)] M none M1 :=
  mm_enter (by decide) (Nat.le_of_ble_eq_true rfl) (fun p e R s m args below meth c Q C hq => xr_sub [0] (lv2 := [(0, mm_r (some v0))]) rfl (w_X7_init_0 C hf hq))
def h_X7_begin_36 (g : mm_c) (v0 : Option Nat) : (mm_M × Int32) → Prop := fun x => mm_X g 0 0 x.1 36 [(0, mm_r v0), (4, mm_i x.2)] []
noncomputable def f_X7_begin_46 (M : mm_M) (v0 : Option Nat) (v4 : Int32) : Option ((mm_M × Int32) ⊕ (mm_M)) :=
  (mm_fR M v0 8 0).bind fun x47 =>
  (mm_tL M x47 v4 1).bind fun M53 =>
  some (.inl (M53, (v4 + 1)))
set_option maxRecDepth 20000 in
theorem w_X7_begin_46 {g : mm_c} (C : mm_ok g cX7_begin "LessonCards$LevelTest" none "begin" 5 1 21 0 0) {M : mm_M} {v0 : Option Nat} {v4 : Int32} {res : (mm_M × Int32) ⊕ (mm_M)} (hf : f_X7_begin_46 M v0 v4 = some res) (ko : (mm_o (h_X7_begin_36 g v0) (fun z => mm_q g 0 0 none z)) res) : mm_X g 0 0 M 46 [(0, mm_r v0), (4, mm_i v4)] [] := by
  unfold f_X7_begin_46 at hf
  refine xr_aload_n 47 0 C dX7_begin_46 rfl rfl rfl ?_
  obtain ⟨x47, h47, hf⟩ := mm_bd_e hf
  refine xr_getR 50 C cf_X7_9 rfl h47 dX7_begin_47 rfl ?_
  refine xr_iload 52 1 C dX7_begin_50 rfl rfl ?_
  refine xr_lconst 53 C (v := 1) dX7_begin_52 (by decide) rfl ?_
  obtain ⟨M53, h53, hf⟩ := mm_bd_e hf
  refine xr_astL 54 C h53 dX7_begin_53 rfl ?_
  refine xr_iinc 57 1 C dX7_begin_54 rfl (by decide) (v := 1) (by decide) rfl [(4, mm_i (v4 + 1)), (0, mm_r v0)] rfl ?_
  refine xr_goto 36 C dX7_begin_57 (by decide) ?_
  refine xr_sub [1, 0] (lv2 := [(0, mm_r v0), (4, mm_i (v4 + 1))]) rfl ?_
  obtain rfl := Option.some.inj hf
  exact ko
noncomputable def f_X7_begin_60 (M : mm_M) : Option (mm_M) :=
  some M
set_option maxRecDepth 20000 in
theorem w_X7_begin_60 {g : mm_c} (C : mm_ok g cX7_begin "LessonCards$LevelTest" none "begin" 5 1 21 0 0) {M : mm_M} {res : mm_M} (hf : f_X7_begin_60 M = some res) (ko : (fun z => mm_q g 0 0 none z) res) : mm_X g 0 0 M 60 [] [] := by
  unfold f_X7_begin_60 at hf
  obtain rfl := Option.some.inj hf
  exact xr_vret C ko ⟨(Nat.le_of_ble_eq_true rfl), (Nat.le_of_ble_eq_true rfl)⟩ dX7_begin_60
noncomputable def f_X7_begin_36 (M : mm_M) (v0 : Option Nat) (v4 : Int32) : Option ((mm_M × Int32) ⊕ (mm_M)) :=
  (mm_fR M v0 8 0).bind fun x39 =>
  (mm_ln M x39).bind fun x42 =>
  if x42 ≤ v4 then mm_mp (f_X7_begin_60 M) else f_X7_begin_46 M v0 v4
set_option maxRecDepth 20000 in
theorem w_X7_begin_36 {g : mm_c} (C : mm_ok g cX7_begin "LessonCards$LevelTest" none "begin" 5 1 21 0 0) {M : mm_M} {v0 : Option Nat} {v4 : Int32} {res : (mm_M × Int32) ⊕ (mm_M)} (hf : f_X7_begin_36 M v0 v4 = some res) (ko : (mm_o (h_X7_begin_36 g v0) (fun z => mm_q g 0 0 none z)) res) : mm_X g 0 0 M 36 [(0, mm_r v0), (4, mm_i v4)] [] := by
  unfold f_X7_begin_36 at hf
  refine xr_iload 38 1 C dX7_begin_36 rfl rfl ?_
  refine xr_aload_n 39 0 C dX7_begin_38 rfl rfl rfl ?_
  obtain ⟨x39, h39, hf⟩ := mm_bd_e hf
  refine xr_getR 42 C cf_X7_9 rfl h39 dX7_begin_39 rfl ?_
  obtain ⟨x42, h42, hf⟩ := mm_bd_e hf
  refine xr_alen 43 C h42 dX7_begin_42 rfl ?_
  refine xr_icmp_ge 60 46 C dX7_begin_43 (by decide) rfl (fun hc => ?_) (fun hc => ?_)
  · replace hf := (if_pos hc).symm.trans hf
    refine xr_sub [] (lv2 := []) rfl ?_
    obtain ⟨z, hf2, rfl⟩ := mm_mp_e hf
    clear hf
    have hf := hf2
    clear hf2
    exact w_X7_begin_60 C hf ko
  · replace hf := (if_neg hc).symm.trans hf
    exact w_X7_begin_46 C hf ko
noncomputable def f_X7_begin_36w (M : mm_M) (v0 : Option Nat) (v4 : Int32) : Option (mm_M) := mm_w (fun x => f_X7_begin_36 x.1 v0 x.2) (M, v4)
theorem l_X7_begin_36 {g : mm_c} (C : mm_ok g cX7_begin "LessonCards$LevelTest" none "begin" 5 1 21 0 0) {M : mm_M} {v0 : Option Nat} {v4 : Int32} {res : mm_M} (hf : f_X7_begin_36w M v0 v4 = some res) (ko : (fun z => mm_q g 0 0 none z) res) : mm_X g 0 0 M 36 [(0, mm_r v0), (4, mm_i v4)] [] :=
  mm_w_W (body := fun x => f_X7_begin_36 x.1 v0 x.2) (Wh := h_X7_begin_36 g v0) (ok := (fun z => mm_q g 0 0 none z)) (x := (M, v4)) (fun x r hb ho => w_X7_begin_36 C hb ho) hf ko
noncomputable def f_X7_begin_0 (M : mm_M) (v0 : Option Nat) (v1 : Int32) (v2 : Int32) (v3 : Int32) : Option (mm_M) :=
  (mm_fR M v0 8 0).bind fun x3 =>
  (mm_ln M x3).bind fun x6 =>
  (mm_pI M v0 8 1 (if x6 < v1 then x6 else v1)).bind fun M10 =>
  (mm_pI M10 v0 8 2 v2).bind fun M15 =>
  (mm_pI M15 v0 8 3 v3).bind fun M20 =>
  (mm_pI M20 v0 8 4 0).bind fun M25 =>
  (mm_pZ M25 v0 8 5 0).bind fun M30 =>
  f_X7_begin_36w M30 v0 0
set_option maxRecDepth 20000 in
theorem w_X7_begin_0 {g : mm_c} (C : mm_ok g cX7_begin "LessonCards$LevelTest" none "begin" 5 1 21 0 0) {M : mm_M} {v0 : Option Nat} {v1 : Int32} {v2 : Int32} {v3 : Int32} {res : mm_M} (hf : f_X7_begin_0 M v0 v1 v2 v3 = some res) (ko : (fun z => mm_q g 0 0 none z) res) : mm_X g 0 0 M 0 [(0, mm_r v0), (1, mm_i v1), (2, mm_i v2), (3, mm_i v3)] [] := by
  unfold f_X7_begin_0 at hf
  refine xr_aload_n 1 0 C dX7_begin_0 rfl rfl rfl ?_
  refine xr_iload_n 2 1 C dX7_begin_1 rfl rfl rfl ?_
  refine xr_aload_n 3 0 C dX7_begin_2 rfl rfl rfl ?_
  obtain ⟨x3, h3, hf⟩ := mm_bd_e hf
  refine xr_getR 6 C cf_X7_9 rfl h3 dX7_begin_3 rfl ?_
  obtain ⟨x6, h6, hf⟩ := mm_bd_e hf
  refine xr_alen 7 C h6 dX7_begin_6 rfl ?_
  refine xr_mmin 10 C wd_819 wd_353 wd_59 wd_354 ⟨Nat.le_of_ble_eq_true rfl, Nat.le_of_ble_eq_true rfl, (Nat.le_of_ble_eq_true rfl), (Nat.le_of_ble_eq_true rfl)⟩ (Nat.le_of_ble_eq_true rfl) dX7_begin_7 rfl ?_
  obtain ⟨M10, h10, hf⟩ := mm_bd_e hf
  refine xr_putI 13 C cf_X7_25 (fun h => by cases h) h10 dX7_begin_10 rfl ?_
  refine xr_aload_n 14 0 C dX7_begin_13 rfl rfl rfl ?_
  refine xr_iload_n 15 2 C dX7_begin_14 rfl rfl rfl ?_
  obtain ⟨M15, h15, hf⟩ := mm_bd_e hf
  refine xr_putI 18 C cf_X7_29 (fun h => by cases h) h15 dX7_begin_15 rfl ?_
  refine xr_aload_n 19 0 C dX7_begin_18 rfl rfl rfl ?_
  refine xr_iload_n 20 3 C dX7_begin_19 rfl rfl rfl ?_
  obtain ⟨M20, h20, hf⟩ := mm_bd_e hf
  refine xr_putI 23 C cf_X7_32 (fun h => by cases h) h20 dX7_begin_20 rfl ?_
  refine xr_aload_n 24 0 C dX7_begin_23 rfl rfl rfl ?_
  refine xr_iconst 25 C (v := 0) dX7_begin_24 (by decide) rfl ?_
  obtain ⟨M25, h25, hf⟩ := mm_bd_e hf
  refine xr_putI 28 C cf_X7_35 (fun h => by cases h) h25 dX7_begin_25 rfl ?_
  refine xr_aload_n 29 0 C dX7_begin_28 rfl rfl rfl ?_
  refine xr_iconst 30 C (v := 0) dX7_begin_29 (by decide) rfl ?_
  obtain ⟨M30, h30, hf⟩ := mm_bd_e hf
  refine xr_putZ 33 C cf_X7_15 (fun h => by cases h) h30 dX7_begin_30 rfl ?_
  refine xr_iconst 34 C (v := 0) dX7_begin_33 (by decide) rfl ?_
  refine xr_istore 36 C dX7_begin_34 (by decide) rfl [(4, mm_i 0), (0, mm_r v0), (1, mm_i v1), (2, mm_i v2), (3, mm_i v3)] rfl ?_
  refine xr_sub [1, 0] (lv2 := [(0, mm_r v0), (4, mm_i 0)]) rfl ?_
  exact l_X7_begin_36 C hf ko
noncomputable def f_X7_begin (M : mm_M) (v0 : Option Nat) (v1 : Int32) (v2 : Int32) (v3 : Int32) : Option (mm_M) := f_X7_begin_0 M v0 v1 v2 v3
theorem c_X7_begin (l : Launch) (G : va_G) (cy : Nat → ClassId) {M : mm_M} {v0 : Option Nat} {v1 : Int32} {v2 : Int32} {v3 : Int32} {M1 : mm_M} (hf : f_X7_begin M v0 v1 v2 v3 = some M1) : mm_Met l yX7_begin cX7_begin 5 none 1 21 0 0 G cy [mm_r v0, mm_i v1, mm_i v2, mm_i v3] M none M1 :=
  mm_enter (by decide) (Nat.le_of_ble_eq_true rfl) (fun p e R s m args below meth c Q C hq => xr_sub [0, 1, 2, 3] (lv2 := [(0, mm_r v0), (1, mm_i v1), (2, mm_i v2), (3, mm_i v3)]) rfl (w_X7_begin_0 C hf hq))
noncomputable def f_X7_weightOf_33 (M : mm_M) (s0 : Int64) : Option (Int64) :=
  some s0
set_option maxRecDepth 20000 in
theorem w_X7_weightOf_33 {g : mm_c} (C : mm_ok g cX7_weightOf "LessonCards$LevelTest" (some .long) "weightOf" 2 0 0 0 0) {M : mm_M} {s0 : Int64} {res : Int64} (hf : f_X7_weightOf_33 M s0 = some res) (ko : (fun z => mm_q g 0 0 (some (mm_j z)) M) res) : mm_X g 0 0 M 33 [] [mm_j s0] := by
  unfold f_X7_weightOf_33 at hf
  obtain rfl := Option.some.inj hf
  exact xr_lret C ko ⟨(Nat.le_of_ble_eq_true rfl), (Nat.le_of_ble_eq_true rfl)⟩ dX7_weightOf_33
noncomputable def f_X7_weightOf_21 (M : mm_M) : Option (Int64) :=
  f_X7_weightOf_33 M (-1)
set_option maxRecDepth 20000 in
theorem w_X7_weightOf_21 {g : mm_c} (C : mm_ok g cX7_weightOf "LessonCards$LevelTest" (some .long) "weightOf" 2 0 0 0 0) {M : mm_M} {res : Int64} (hf : f_X7_weightOf_21 M = some res) (ko : (fun z => mm_q g 0 0 (some (mm_j z)) M) res) : mm_X g 0 0 M 21 [] [] := by
  unfold f_X7_weightOf_21 at hf
  refine xr_ldc2 24 C wd_857 dX7_weightOf_21 rfl ?_
  refine xr_goto 33 C dX7_weightOf_24 (by decide) ?_
  exact w_X7_weightOf_33 C hf ko
noncomputable def f_X7_weightOf_27 (M : mm_M) (v0 : Option Nat) (v1 : Int32) : Option (Int64) :=
  (mm_fR M v0 8 0).bind fun x28 =>
  (mm_aL M x28 v1).bind fun x32 =>
  f_X7_weightOf_33 M x32
set_option maxRecDepth 20000 in
theorem w_X7_weightOf_27 {g : mm_c} (C : mm_ok g cX7_weightOf "LessonCards$LevelTest" (some .long) "weightOf" 2 0 0 0 0) {M : mm_M} {v0 : Option Nat} {v1 : Int32} {res : Int64} (hf : f_X7_weightOf_27 M v0 v1 = some res) (ko : (fun z => mm_q g 0 0 (some (mm_j z)) M) res) : mm_X g 0 0 M 27 [(0, mm_r v0), (1, mm_i v1)] [] := by
  unfold f_X7_weightOf_27 at hf
  refine xr_aload_n 28 0 C dX7_weightOf_27 rfl rfl rfl ?_
  obtain ⟨x28, h28, hf⟩ := mm_bd_e hf
  refine xr_getR 31 C cf_X7_9 rfl h28 dX7_weightOf_28 rfl ?_
  refine xr_iload_n 32 1 C dX7_weightOf_31 rfl rfl rfl ?_
  obtain ⟨x32, h32, hf⟩ := mm_bd_e hf
  refine xr_aldL 33 C h32 dX7_weightOf_32 rfl ?_
  refine xr_sub [] (lv2 := []) rfl ?_
  exact w_X7_weightOf_33 C hf ko
noncomputable def f_X7_weightOf_12 (M : mm_M) (v0 : Option Nat) (v1 : Int32) : Option (Int64) :=
  (mm_fR M v0 8 0).bind fun x14 =>
  (mm_ln M x14).bind fun x17 =>
  if v1 < x17 then f_X7_weightOf_27 M v0 v1 else f_X7_weightOf_21 M
set_option maxRecDepth 20000 in
theorem w_X7_weightOf_12 {g : mm_c} (C : mm_ok g cX7_weightOf "LessonCards$LevelTest" (some .long) "weightOf" 2 0 0 0 0) {M : mm_M} {v0 : Option Nat} {v1 : Int32} {res : Int64} (hf : f_X7_weightOf_12 M v0 v1 = some res) (ko : (fun z => mm_q g 0 0 (some (mm_j z)) M) res) : mm_X g 0 0 M 12 [(0, mm_r v0), (1, mm_i v1)] [] := by
  unfold f_X7_weightOf_12 at hf
  refine xr_iload_n 13 1 C dX7_weightOf_12 rfl rfl rfl ?_
  refine xr_aload_n 14 0 C dX7_weightOf_13 rfl rfl rfl ?_
  obtain ⟨x14, h14, hf⟩ := mm_bd_e hf
  refine xr_getR 17 C cf_X7_9 rfl h14 dX7_weightOf_14 rfl ?_
  obtain ⟨x17, h17, hf⟩ := mm_bd_e hf
  refine xr_alen 18 C h17 dX7_weightOf_17 rfl ?_
  refine xr_icmp_lt 27 21 C dX7_weightOf_18 (by decide) rfl (fun hc => ?_) (fun hc => ?_)
  · replace hf := (if_pos hc).symm.trans hf
    exact w_X7_weightOf_27 C hf ko
  · replace hf := (if_neg hc).symm.trans hf
    refine xr_sub [] (lv2 := []) rfl ?_
    exact w_X7_weightOf_21 C hf ko
noncomputable def f_X7_weightOf_4 (M : mm_M) (v0 : Option Nat) (v1 : Int32) : Option (Int64) :=
  (mm_fI M v0 8 1).bind fun x6 =>
  if x6 ≤ v1 then f_X7_weightOf_21 M else f_X7_weightOf_12 M v0 v1
set_option maxRecDepth 20000 in
theorem w_X7_weightOf_4 {g : mm_c} (C : mm_ok g cX7_weightOf "LessonCards$LevelTest" (some .long) "weightOf" 2 0 0 0 0) {M : mm_M} {v0 : Option Nat} {v1 : Int32} {res : Int64} (hf : f_X7_weightOf_4 M v0 v1 = some res) (ko : (fun z => mm_q g 0 0 (some (mm_j z)) M) res) : mm_X g 0 0 M 4 [(0, mm_r v0), (1, mm_i v1)] [] := by
  unfold f_X7_weightOf_4 at hf
  refine xr_iload_n 5 1 C dX7_weightOf_4 rfl rfl rfl ?_
  refine xr_aload_n 6 0 C dX7_weightOf_5 rfl rfl rfl ?_
  obtain ⟨x6, h6, hf⟩ := mm_bd_e hf
  refine xr_getI 9 C cf_X7_25 rfl h6 dX7_weightOf_6 rfl ?_
  refine xr_icmp_ge 21 12 C dX7_weightOf_9 (by decide) rfl (fun hc => ?_) (fun hc => ?_)
  · replace hf := (if_pos hc).symm.trans hf
    refine xr_sub [] (lv2 := []) rfl ?_
    exact w_X7_weightOf_21 C hf ko
  · replace hf := (if_neg hc).symm.trans hf
    exact w_X7_weightOf_12 C hf ko
noncomputable def f_X7_weightOf_0 (M : mm_M) (v0 : Option Nat) (v1 : Int32) : Option (Int64) :=
  if v1 < 0 then f_X7_weightOf_21 M else f_X7_weightOf_4 M v0 v1
set_option maxRecDepth 20000 in
theorem w_X7_weightOf_0 {g : mm_c} (C : mm_ok g cX7_weightOf "LessonCards$LevelTest" (some .long) "weightOf" 2 0 0 0 0) {M : mm_M} {v0 : Option Nat} {v1 : Int32} {res : Int64} (hf : f_X7_weightOf_0 M v0 v1 = some res) (ko : (fun z => mm_q g 0 0 (some (mm_j z)) M) res) : mm_X g 0 0 M 0 [(0, mm_r v0), (1, mm_i v1)] [] := by
  unfold f_X7_weightOf_0 at hf
  refine xr_iload_n 1 1 C dX7_weightOf_0 rfl rfl rfl ?_
  refine xr_if_lt 21 4 C dX7_weightOf_1 (by decide) rfl (fun hc => ?_) (fun hc => ?_)
  · replace hf := (if_pos hc).symm.trans hf
    refine xr_sub [] (lv2 := []) rfl ?_
    exact w_X7_weightOf_21 C hf ko
  · replace hf := (if_neg hc).symm.trans hf
    exact w_X7_weightOf_4 C hf ko
noncomputable def f_X7_weightOf (M : mm_M) (v0 : Option Nat) (v1 : Int32) : Option (Int64) := f_X7_weightOf_0 M v0 v1
theorem c_X7_weightOf (l : Launch) (G : va_G) (cy : Nat → ClassId) {M : mm_M} {v0 : Option Nat} {v1 : Int32} {r : Int64} (hf : f_X7_weightOf M v0 v1 = some r) : mm_Met l yX7_weightOf cX7_weightOf 2 (some .long) 0 0 0 0 G cy [mm_r v0, mm_i v1] M (some (mm_j r)) M :=
  mm_enter (by decide) (Nat.le_of_ble_eq_true rfl) (fun p e R s m args below meth c Q C hq => xr_sub [0, 1] (lv2 := [(0, mm_r v0), (1, mm_i v1)]) rfl (w_X7_weightOf_0 C hf hq))
def h_X7_likeliest_7 (g : mm_c) (M : mm_M) (v0 : Option Nat) : (Int32 × Int64 × Int32) → Prop := fun x => mm_X g 0 0 M 7 [(0, mm_r v0), (1, mm_i x.1), (2, mm_j x.2.1), (4, mm_i x.2.2)] []
noncomputable def f_X7_likeliest_49 (M : mm_M) (v0 : Option Nat) (v1 : Int32) (v2 : Int64) (v4 : Int32) : Option ((Int32 × Int64 × Int32) ⊕ (Int32)) :=
  some (.inl (v1, v2, (v4 + 1)))
set_option maxRecDepth 20000 in
theorem w_X7_likeliest_49 {g : mm_c} (C : mm_ok g cX7_likeliest "LessonCards$LevelTest" (some .int) "likeliest" 5 0 0 0 0) {M : mm_M} {v0 : Option Nat} {v1 : Int32} {v2 : Int64} {v4 : Int32} {res : (Int32 × Int64 × Int32) ⊕ (Int32)} (hf : f_X7_likeliest_49 M v0 v1 v2 v4 = some res) (ko : (mm_o (h_X7_likeliest_7 g M v0) (fun z => mm_q g 0 0 (some (mm_i z)) M)) res) : mm_X g 0 0 M 49 [(0, mm_r v0), (1, mm_i v1), (2, mm_j v2), (4, mm_i v4)] [] := by
  unfold f_X7_likeliest_49 at hf
  refine xr_iinc 52 3 C dX7_likeliest_49 rfl (by decide) (v := 1) (by decide) rfl [(4, mm_i (v4 + 1)), (0, mm_r v0), (1, mm_i v1), (2, mm_j v2)] rfl ?_
  refine xr_goto 7 C dX7_likeliest_52 (by decide) ?_
  refine xr_sub [1, 2, 3, 0] (lv2 := [(0, mm_r v0), (1, mm_i v1), (2, mm_j v2), (4, mm_i (v4 + 1))]) rfl ?_
  obtain rfl := Option.some.inj hf
  exact ko
noncomputable def f_X7_likeliest_38 (M : mm_M) (v0 : Option Nat) (v4 : Int32) : Option ((Int32 × Int64 × Int32) ⊕ (Int32)) :=
  (mm_fR M v0 8 0).bind fun x39 =>
  (mm_aL M x39 v4).bind fun x44 =>
  f_X7_likeliest_49 M v0 v4 x44 v4
set_option maxRecDepth 20000 in
theorem w_X7_likeliest_38 {g : mm_c} (C : mm_ok g cX7_likeliest "LessonCards$LevelTest" (some .int) "likeliest" 5 0 0 0 0) {M : mm_M} {v0 : Option Nat} {v4 : Int32} {res : (Int32 × Int64 × Int32) ⊕ (Int32)} (hf : f_X7_likeliest_38 M v0 v4 = some res) (ko : (mm_o (h_X7_likeliest_7 g M v0) (fun z => mm_q g 0 0 (some (mm_i z)) M)) res) : mm_X g 0 0 M 38 [(0, mm_r v0), (4, mm_i v4)] [] := by
  unfold f_X7_likeliest_38 at hf
  refine xr_aload_n 39 0 C dX7_likeliest_38 rfl rfl rfl ?_
  obtain ⟨x39, h39, hf⟩ := mm_bd_e hf
  refine xr_getR 42 C cf_X7_9 rfl h39 dX7_likeliest_39 rfl ?_
  refine xr_iload 44 1 C dX7_likeliest_42 rfl rfl ?_
  obtain ⟨x44, h44, hf⟩ := mm_bd_e hf
  refine xr_aldL 45 C h44 dX7_likeliest_44 rfl ?_
  refine xr_lstore_n 46 C dX7_likeliest_45 rfl (by decide) rfl [(2, mm_j x44), (0, mm_r v0), (4, mm_i v4)] rfl ?_
  refine xr_iload 48 2 C dX7_likeliest_46 rfl rfl ?_
  refine xr_istore_n 49 C dX7_likeliest_48 rfl (by decide) rfl [(1, mm_i v4), (2, mm_j x44), (0, mm_r v0), (4, mm_i v4)] rfl ?_
  refine xr_sub [2, 0, 1, 3] (lv2 := [(0, mm_r v0), (1, mm_i v4), (2, mm_j x44), (4, mm_i v4)]) rfl ?_
  exact w_X7_likeliest_49 C hf ko
noncomputable def f_X7_likeliest_26 (M : mm_M) (v0 : Option Nat) (v1 : Int32) (v2 : Int64) (v4 : Int32) : Option ((Int32 × Int64 × Int32) ⊕ (Int32)) :=
  (mm_fR M v0 8 0).bind fun x27 =>
  (mm_aL M x27 v4).bind fun x32 =>
  if (lg_cmp x32 v2) ≤ 0 then f_X7_likeliest_49 M v0 v1 v2 v4 else f_X7_likeliest_38 M v0 v4
set_option maxRecDepth 20000 in
theorem w_X7_likeliest_26 {g : mm_c} (C : mm_ok g cX7_likeliest "LessonCards$LevelTest" (some .int) "likeliest" 5 0 0 0 0) {M : mm_M} {v0 : Option Nat} {v1 : Int32} {v2 : Int64} {v4 : Int32} {res : (Int32 × Int64 × Int32) ⊕ (Int32)} (hf : f_X7_likeliest_26 M v0 v1 v2 v4 = some res) (ko : (mm_o (h_X7_likeliest_7 g M v0) (fun z => mm_q g 0 0 (some (mm_i z)) M)) res) : mm_X g 0 0 M 26 [(0, mm_r v0), (1, mm_i v1), (2, mm_j v2), (4, mm_i v4)] [] := by
  unfold f_X7_likeliest_26 at hf
  refine xr_aload_n 27 0 C dX7_likeliest_26 rfl rfl rfl ?_
  obtain ⟨x27, h27, hf⟩ := mm_bd_e hf
  refine xr_getR 30 C cf_X7_9 rfl h27 dX7_likeliest_27 rfl ?_
  refine xr_iload 32 3 C dX7_likeliest_30 rfl rfl ?_
  obtain ⟨x32, h32, hf⟩ := mm_bd_e hf
  refine xr_aldL 33 C h32 dX7_likeliest_32 rfl ?_
  refine xr_lload_n 34 2 C dX7_likeliest_33 rfl rfl rfl ?_
  refine xr_lcmp 35 C dX7_likeliest_34 rfl ?_
  refine xr_if_le 49 38 C dX7_likeliest_35 (by decide) rfl (fun hc => ?_) (fun hc => ?_)
  · replace hf := (if_pos hc).symm.trans hf
    exact w_X7_likeliest_49 C hf ko
  · replace hf := (if_neg hc).symm.trans hf
    refine xr_sub [0, 3] (lv2 := [(0, mm_r v0), (4, mm_i v4)]) rfl ?_
    exact w_X7_likeliest_38 C hf ko
noncomputable def f_X7_likeliest_55 (M : mm_M) (v1 : Int32) : Option (Int32) :=
  some v1
set_option maxRecDepth 20000 in
theorem w_X7_likeliest_55 {g : mm_c} (C : mm_ok g cX7_likeliest "LessonCards$LevelTest" (some .int) "likeliest" 5 0 0 0 0) {M : mm_M} {v1 : Int32} {res : Int32} (hf : f_X7_likeliest_55 M v1 = some res) (ko : (fun z => mm_q g 0 0 (some (mm_i z)) M) res) : mm_X g 0 0 M 55 [(1, mm_i v1)] [] := by
  unfold f_X7_likeliest_55 at hf
  refine xr_iload_n 56 0 C dX7_likeliest_55 rfl rfl rfl ?_
  obtain rfl := Option.some.inj hf
  exact xr_iret C ko ⟨(Nat.le_of_ble_eq_true rfl), (Nat.le_of_ble_eq_true rfl)⟩ dX7_likeliest_56
noncomputable def f_X7_likeliest_16 (M : mm_M) (v0 : Option Nat) (v1 : Int32) (v2 : Int64) (v4 : Int32) : Option ((Int32 × Int64 × Int32) ⊕ (Int32)) :=
  (mm_fR M v0 8 0).bind fun x19 =>
  (mm_ln M x19).bind fun x22 =>
  if x22 ≤ v4 then mm_mp (f_X7_likeliest_55 M v1) else f_X7_likeliest_26 M v0 v1 v2 v4
set_option maxRecDepth 20000 in
theorem w_X7_likeliest_16 {g : mm_c} (C : mm_ok g cX7_likeliest "LessonCards$LevelTest" (some .int) "likeliest" 5 0 0 0 0) {M : mm_M} {v0 : Option Nat} {v1 : Int32} {v2 : Int64} {v4 : Int32} {res : (Int32 × Int64 × Int32) ⊕ (Int32)} (hf : f_X7_likeliest_16 M v0 v1 v2 v4 = some res) (ko : (mm_o (h_X7_likeliest_7 g M v0) (fun z => mm_q g 0 0 (some (mm_i z)) M)) res) : mm_X g 0 0 M 16 [(0, mm_r v0), (1, mm_i v1), (2, mm_j v2), (4, mm_i v4)] [] := by
  unfold f_X7_likeliest_16 at hf
  refine xr_iload 18 3 C dX7_likeliest_16 rfl rfl ?_
  refine xr_aload_n 19 0 C dX7_likeliest_18 rfl rfl rfl ?_
  obtain ⟨x19, h19, hf⟩ := mm_bd_e hf
  refine xr_getR 22 C cf_X7_9 rfl h19 dX7_likeliest_19 rfl ?_
  obtain ⟨x22, h22, hf⟩ := mm_bd_e hf
  refine xr_alen 23 C h22 dX7_likeliest_22 rfl ?_
  refine xr_icmp_ge 55 26 C dX7_likeliest_23 (by decide) rfl (fun hc => ?_) (fun hc => ?_)
  · replace hf := (if_pos hc).symm.trans hf
    refine xr_sub [1] (lv2 := [(1, mm_i v1)]) rfl ?_
    obtain ⟨z, hf2, rfl⟩ := mm_mp_e hf
    clear hf
    have hf := hf2
    clear hf2
    exact w_X7_likeliest_55 C hf ko
  · replace hf := (if_neg hc).symm.trans hf
    exact w_X7_likeliest_26 C hf ko
noncomputable def f_X7_likeliest_7 (M : mm_M) (v0 : Option Nat) (v1 : Int32) (v2 : Int64) (v4 : Int32) : Option ((Int32 × Int64 × Int32) ⊕ (Int32)) :=
  (mm_fI M v0 8 1).bind fun x10 =>
  if x10 ≤ v4 then mm_mp (f_X7_likeliest_55 M v1) else f_X7_likeliest_16 M v0 v1 v2 v4
set_option maxRecDepth 20000 in
theorem w_X7_likeliest_7 {g : mm_c} (C : mm_ok g cX7_likeliest "LessonCards$LevelTest" (some .int) "likeliest" 5 0 0 0 0) {M : mm_M} {v0 : Option Nat} {v1 : Int32} {v2 : Int64} {v4 : Int32} {res : (Int32 × Int64 × Int32) ⊕ (Int32)} (hf : f_X7_likeliest_7 M v0 v1 v2 v4 = some res) (ko : (mm_o (h_X7_likeliest_7 g M v0) (fun z => mm_q g 0 0 (some (mm_i z)) M)) res) : mm_X g 0 0 M 7 [(0, mm_r v0), (1, mm_i v1), (2, mm_j v2), (4, mm_i v4)] [] := by
  unfold f_X7_likeliest_7 at hf
  refine xr_iload 9 3 C dX7_likeliest_7 rfl rfl ?_
  refine xr_aload_n 10 0 C dX7_likeliest_9 rfl rfl rfl ?_
  obtain ⟨x10, h10, hf⟩ := mm_bd_e hf
  refine xr_getI 13 C cf_X7_25 rfl h10 dX7_likeliest_10 rfl ?_
  refine xr_icmp_ge 55 16 C dX7_likeliest_13 (by decide) rfl (fun hc => ?_) (fun hc => ?_)
  · replace hf := (if_pos hc).symm.trans hf
    refine xr_sub [1] (lv2 := [(1, mm_i v1)]) rfl ?_
    obtain ⟨z, hf2, rfl⟩ := mm_mp_e hf
    clear hf
    have hf := hf2
    clear hf2
    exact w_X7_likeliest_55 C hf ko
  · replace hf := (if_neg hc).symm.trans hf
    exact w_X7_likeliest_16 C hf ko
noncomputable def f_X7_likeliest_7w (M : mm_M) (v0 : Option Nat) (v1 : Int32) (v2 : Int64) (v4 : Int32) : Option (Int32) := mm_w (fun x => f_X7_likeliest_7 M v0 x.1 x.2.1 x.2.2) (v1, v2, v4)
theorem l_X7_likeliest_7 {g : mm_c} (C : mm_ok g cX7_likeliest "LessonCards$LevelTest" (some .int) "likeliest" 5 0 0 0 0) {M : mm_M} {v0 : Option Nat} {v1 : Int32} {v2 : Int64} {v4 : Int32} {res : Int32} (hf : f_X7_likeliest_7w M v0 v1 v2 v4 = some res) (ko : (fun z => mm_q g 0 0 (some (mm_i z)) M) res) : mm_X g 0 0 M 7 [(0, mm_r v0), (1, mm_i v1), (2, mm_j v2), (4, mm_i v4)] [] :=
  mm_w_W (body := fun x => f_X7_likeliest_7 M v0 x.1 x.2.1 x.2.2) (Wh := h_X7_likeliest_7 g M v0) (ok := (fun z => mm_q g 0 0 (some (mm_i z)) M)) (x := (v1, v2, v4)) (fun x r hb ho => w_X7_likeliest_7 C hb ho) hf ko
noncomputable def f_X7_likeliest_0 (M : mm_M) (v0 : Option Nat) : Option (Int32) :=
  f_X7_likeliest_7w M v0 (-1) 0 0
set_option maxRecDepth 20000 in
theorem w_X7_likeliest_0 {g : mm_c} (C : mm_ok g cX7_likeliest "LessonCards$LevelTest" (some .int) "likeliest" 5 0 0 0 0) {M : mm_M} {v0 : Option Nat} {res : Int32} (hf : f_X7_likeliest_0 M v0 = some res) (ko : (fun z => mm_q g 0 0 (some (mm_i z)) M) res) : mm_X g 0 0 M 0 [(0, mm_r v0)] [] := by
  unfold f_X7_likeliest_0 at hf
  refine xr_iconst 1 C (v := (-1)) dX7_likeliest_0 (by decide) rfl ?_
  refine xr_istore_n 2 C dX7_likeliest_1 rfl (by decide) rfl [(1, mm_i (-1)), (0, mm_r v0)] rfl ?_
  refine xr_lconst 3 C (v := 0) dX7_likeliest_2 (by decide) rfl ?_
  refine xr_lstore_n 4 C dX7_likeliest_3 rfl (by decide) rfl [(2, mm_j 0), (1, mm_i (-1)), (0, mm_r v0)] rfl ?_
  refine xr_iconst 5 C (v := 0) dX7_likeliest_4 (by decide) rfl ?_
  refine xr_istore 7 C dX7_likeliest_5 (by decide) rfl [(4, mm_i 0), (2, mm_j 0), (1, mm_i (-1)), (0, mm_r v0)] rfl ?_
  refine xr_sub [3, 2, 1, 0] (lv2 := [(0, mm_r v0), (1, mm_i (-1)), (2, mm_j 0), (4, mm_i 0)]) rfl ?_
  exact l_X7_likeliest_7 C hf ko
noncomputable def f_X7_likeliest (M : mm_M) (v0 : Option Nat) : Option (Int32) := f_X7_likeliest_0 M v0
theorem c_X7_likeliest (l : Launch) (G : va_G) (cy : Nat → ClassId) {M : mm_M} {v0 : Option Nat} {r : Int32} (hf : f_X7_likeliest M v0 = some r) : mm_Met l yX7_likeliest cX7_likeliest 5 (some .int) 0 0 0 0 G cy [mm_r v0] M (some (mm_i r)) M :=
  mm_enter (by decide) (Nat.le_of_ble_eq_true rfl) (fun p e R s m args below meth c Q C hq => xr_sub [0] (lv2 := [(0, mm_r v0)]) rfl (w_X7_likeliest_0 C hf hq))
noncomputable def f_X7_factorOf_24 (M : mm_M) (s0 : Int32) : Option (Int32) :=
  some s0
set_option maxRecDepth 20000 in
theorem w_X7_factorOf_24 {g : mm_c} (C : mm_ok g cX7_factorOf "LessonCards$LevelTest" (some .int) "factorOf" 4 0 0 0 0) {M : mm_M} {s0 : Int32} {res : Int32} (hf : f_X7_factorOf_24 M s0 = some res) (ko : (fun z => mm_q g 0 0 (some (mm_i z)) M) res) : mm_X g 0 0 M 24 [] [mm_i s0] := by
  unfold f_X7_factorOf_24 at hf
  obtain rfl := Option.some.inj hf
  exact xr_iret C ko ⟨(Nat.le_of_ble_eq_true rfl), (Nat.le_of_ble_eq_true rfl)⟩ dX7_factorOf_24
noncomputable def f_X7_factorOf_9 (M : mm_M) (v0 : Option Nat) : Option (Int32) :=
  (mm_fI M v0 8 2).bind fun x13 =>
  f_X7_factorOf_24 M (1000 - x13)
set_option maxRecDepth 20000 in
theorem w_X7_factorOf_9 {g : mm_c} (C : mm_ok g cX7_factorOf "LessonCards$LevelTest" (some .int) "factorOf" 4 0 0 0 0) {M : mm_M} {v0 : Option Nat} {res : Int32} (hf : f_X7_factorOf_9 M v0 = some res) (ko : (fun z => mm_q g 0 0 (some (mm_i z)) M) res) : mm_X g 0 0 M 9 [(0, mm_r v0)] [] := by
  unfold f_X7_factorOf_9 at hf
  refine xr_sipush 12 C (v := 1000) dX7_factorOf_9 (by decide) rfl ?_
  refine xr_aload_n 13 0 C dX7_factorOf_12 rfl rfl rfl ?_
  obtain ⟨x13, h13, hf⟩ := mm_bd_e hf
  refine xr_getI 16 C cf_X7_29 rfl h13 dX7_factorOf_13 rfl ?_
  refine xr_isub 17 C dX7_factorOf_16 rfl ?_
  refine xr_goto 24 C dX7_factorOf_17 (by decide) ?_
  refine xr_sub [] (lv2 := []) rfl ?_
  exact w_X7_factorOf_24 C hf ko
noncomputable def f_X7_factorOf_20 (M : mm_M) (v0 : Option Nat) : Option (Int32) :=
  (mm_fI M v0 8 2).bind fun x21 =>
  f_X7_factorOf_24 M x21
set_option maxRecDepth 20000 in
theorem w_X7_factorOf_20 {g : mm_c} (C : mm_ok g cX7_factorOf "LessonCards$LevelTest" (some .int) "factorOf" 4 0 0 0 0) {M : mm_M} {v0 : Option Nat} {res : Int32} (hf : f_X7_factorOf_20 M v0 = some res) (ko : (fun z => mm_q g 0 0 (some (mm_i z)) M) res) : mm_X g 0 0 M 20 [(0, mm_r v0)] [] := by
  unfold f_X7_factorOf_20 at hf
  refine xr_aload_n 21 0 C dX7_factorOf_20 rfl rfl rfl ?_
  obtain ⟨x21, h21, hf⟩ := mm_bd_e hf
  refine xr_getI 24 C cf_X7_29 rfl h21 dX7_factorOf_21 rfl ?_
  refine xr_sub [] (lv2 := []) rfl ?_
  exact w_X7_factorOf_24 C hf ko
noncomputable def f_X7_factorOf_5 (M : mm_M) (v0 : Option Nat) (v3 : Int32) : Option (Int32) :=
  if v3 = 0 then f_X7_factorOf_20 M v0 else f_X7_factorOf_9 M v0
set_option maxRecDepth 20000 in
theorem w_X7_factorOf_5 {g : mm_c} (C : mm_ok g cX7_factorOf "LessonCards$LevelTest" (some .int) "factorOf" 4 0 0 0 0) {M : mm_M} {v0 : Option Nat} {v3 : Int32} {res : Int32} (hf : f_X7_factorOf_5 M v0 v3 = some res) (ko : (fun z => mm_q g 0 0 (some (mm_i z)) M) res) : mm_X g 0 0 M 5 [(0, mm_r v0), (3, mm_i v3)] [] := by
  unfold f_X7_factorOf_5 at hf
  refine xr_iload_n 6 1 C dX7_factorOf_5 rfl rfl rfl ?_
  refine xr_if_eq 20 9 C dX7_factorOf_6 (by decide) rfl (fun hc => ?_) (fun hc => ?_)
  · replace hf := (if_pos hc).symm.trans hf
    refine xr_sub [0] (lv2 := [(0, mm_r v0)]) rfl ?_
    exact w_X7_factorOf_20 C hf ko
  · replace hf := (if_neg hc).symm.trans hf
    refine xr_sub [0] (lv2 := [(0, mm_r v0)]) rfl ?_
    exact w_X7_factorOf_9 C hf ko
noncomputable def f_X7_factorOf_44 (M : mm_M) (s0 : Int32) : Option (Int32) :=
  some s0
set_option maxRecDepth 20000 in
theorem w_X7_factorOf_44 {g : mm_c} (C : mm_ok g cX7_factorOf "LessonCards$LevelTest" (some .int) "factorOf" 4 0 0 0 0) {M : mm_M} {s0 : Int32} {res : Int32} (hf : f_X7_factorOf_44 M s0 = some res) (ko : (fun z => mm_q g 0 0 (some (mm_i z)) M) res) : mm_X g 0 0 M 44 [] [mm_i s0] := by
  unfold f_X7_factorOf_44 at hf
  obtain rfl := Option.some.inj hf
  exact xr_iret C ko ⟨(Nat.le_of_ble_eq_true rfl), (Nat.le_of_ble_eq_true rfl)⟩ dX7_factorOf_44
noncomputable def f_X7_factorOf_29 (M : mm_M) (v0 : Option Nat) : Option (Int32) :=
  (mm_fI M v0 8 3).bind fun x30 =>
  f_X7_factorOf_44 M x30
set_option maxRecDepth 20000 in
theorem w_X7_factorOf_29 {g : mm_c} (C : mm_ok g cX7_factorOf "LessonCards$LevelTest" (some .int) "factorOf" 4 0 0 0 0) {M : mm_M} {v0 : Option Nat} {res : Int32} (hf : f_X7_factorOf_29 M v0 = some res) (ko : (fun z => mm_q g 0 0 (some (mm_i z)) M) res) : mm_X g 0 0 M 29 [(0, mm_r v0)] [] := by
  unfold f_X7_factorOf_29 at hf
  refine xr_aload_n 30 0 C dX7_factorOf_29 rfl rfl rfl ?_
  obtain ⟨x30, h30, hf⟩ := mm_bd_e hf
  refine xr_getI 33 C cf_X7_32 rfl h30 dX7_factorOf_30 rfl ?_
  refine xr_goto 44 C dX7_factorOf_33 (by decide) ?_
  refine xr_sub [] (lv2 := []) rfl ?_
  exact w_X7_factorOf_44 C hf ko
noncomputable def f_X7_factorOf_36 (M : mm_M) (v0 : Option Nat) : Option (Int32) :=
  (mm_fI M v0 8 3).bind fun x40 =>
  f_X7_factorOf_44 M (1000 - x40)
set_option maxRecDepth 20000 in
theorem w_X7_factorOf_36 {g : mm_c} (C : mm_ok g cX7_factorOf "LessonCards$LevelTest" (some .int) "factorOf" 4 0 0 0 0) {M : mm_M} {v0 : Option Nat} {res : Int32} (hf : f_X7_factorOf_36 M v0 = some res) (ko : (fun z => mm_q g 0 0 (some (mm_i z)) M) res) : mm_X g 0 0 M 36 [(0, mm_r v0)] [] := by
  unfold f_X7_factorOf_36 at hf
  refine xr_sipush 39 C (v := 1000) dX7_factorOf_36 (by decide) rfl ?_
  refine xr_aload_n 40 0 C dX7_factorOf_39 rfl rfl rfl ?_
  obtain ⟨x40, h40, hf⟩ := mm_bd_e hf
  refine xr_getI 43 C cf_X7_32 rfl h40 dX7_factorOf_40 rfl ?_
  refine xr_isub 44 C dX7_factorOf_43 rfl ?_
  refine xr_sub [] (lv2 := []) rfl ?_
  exact w_X7_factorOf_44 C hf ko
noncomputable def f_X7_factorOf_25 (M : mm_M) (v0 : Option Nat) (v3 : Int32) : Option (Int32) :=
  if v3 = 0 then f_X7_factorOf_36 M v0 else f_X7_factorOf_29 M v0
set_option maxRecDepth 20000 in
theorem w_X7_factorOf_25 {g : mm_c} (C : mm_ok g cX7_factorOf "LessonCards$LevelTest" (some .int) "factorOf" 4 0 0 0 0) {M : mm_M} {v0 : Option Nat} {v3 : Int32} {res : Int32} (hf : f_X7_factorOf_25 M v0 v3 = some res) (ko : (fun z => mm_q g 0 0 (some (mm_i z)) M) res) : mm_X g 0 0 M 25 [(0, mm_r v0), (3, mm_i v3)] [] := by
  unfold f_X7_factorOf_25 at hf
  refine xr_iload_n 26 1 C dX7_factorOf_25 rfl rfl rfl ?_
  refine xr_if_eq 36 29 C dX7_factorOf_26 (by decide) rfl (fun hc => ?_) (fun hc => ?_)
  · replace hf := (if_pos hc).symm.trans hf
    refine xr_sub [0] (lv2 := [(0, mm_r v0)]) rfl ?_
    exact w_X7_factorOf_36 C hf ko
  · replace hf := (if_neg hc).symm.trans hf
    refine xr_sub [0] (lv2 := [(0, mm_r v0)]) rfl ?_
    exact w_X7_factorOf_29 C hf ko
noncomputable def f_X7_factorOf_0 (M : mm_M) (v0 : Option Nat) (v1 : Int32) (v2 : Int32) (v3 : Int32) : Option (Int32) :=
  if v1 < v2 then f_X7_factorOf_25 M v0 v3 else f_X7_factorOf_5 M v0 v3
set_option maxRecDepth 20000 in
theorem w_X7_factorOf_0 {g : mm_c} (C : mm_ok g cX7_factorOf "LessonCards$LevelTest" (some .int) "factorOf" 4 0 0 0 0) {M : mm_M} {v0 : Option Nat} {v1 : Int32} {v2 : Int32} {v3 : Int32} {res : Int32} (hf : f_X7_factorOf_0 M v0 v1 v2 v3 = some res) (ko : (fun z => mm_q g 0 0 (some (mm_i z)) M) res) : mm_X g 0 0 M 0 [(0, mm_r v0), (1, mm_i v1), (2, mm_i v2), (3, mm_i v3)] [] := by
  unfold f_X7_factorOf_0 at hf
  refine xr_iload_n 1 1 C dX7_factorOf_0 rfl rfl rfl ?_
  refine xr_iload_n 2 2 C dX7_factorOf_1 rfl rfl rfl ?_
  refine xr_icmp_lt 25 5 C dX7_factorOf_2 (by decide) rfl (fun hc => ?_) (fun hc => ?_)
  · replace hf := (if_pos hc).symm.trans hf
    refine xr_sub [0, 3] (lv2 := [(0, mm_r v0), (3, mm_i v3)]) rfl ?_
    exact w_X7_factorOf_25 C hf ko
  · replace hf := (if_neg hc).symm.trans hf
    refine xr_sub [0, 3] (lv2 := [(0, mm_r v0), (3, mm_i v3)]) rfl ?_
    exact w_X7_factorOf_5 C hf ko
noncomputable def f_X7_factorOf (M : mm_M) (v0 : Option Nat) (v1 : Int32) (v2 : Int32) (v3 : Int32) : Option (Int32) := f_X7_factorOf_0 M v0 v1 v2 v3
theorem c_X7_factorOf (l : Launch) (G : va_G) (cy : Nat → ClassId) {M : mm_M} {v0 : Option Nat} {v1 : Int32} {v2 : Int32} {v3 : Int32} {r : Int32} (hf : f_X7_factorOf M v0 v1 v2 v3 = some r) : mm_Met l yX7_factorOf cX7_factorOf 4 (some .int) 0 0 0 0 G cy [mm_r v0, mm_i v1, mm_i v2, mm_i v3] M (some (mm_i r)) M :=
  mm_enter (by decide) (Nat.le_of_ble_eq_true rfl) (fun p e R s m args below meth c Q C hq => xr_sub [0, 1, 2, 3] (lv2 := [(0, mm_r v0), (1, mm_i v1), (2, mm_i v2), (3, mm_i v3)]) rfl (w_X7_factorOf_0 C hf hq))
def h_X7_greatestBehind_5 (g : mm_c) (M : mm_M) (v0 : Option Nat) (v1 : Int32) (v2 : Int32) : (Int64 × Int32) → Prop := fun x => mm_X g 0 0 M 5 [(0, mm_r v0), (1, mm_i v1), (2, mm_i v2), (3, mm_j x.1), (5, mm_i x.2)] []
noncomputable def f_X7_greatestBehind_24 (M : mm_M) (v0 : Option Nat) (v1 : Int32) (v2 : Int32) (v3 : Int64) (v5 : Int32) : Option ((Int64 × Int32) ⊕ (Int64)) :=
  (mm_fR M v0 8 0).bind fun x26 =>
  (mm_aL M x26 v5).bind fun x31 =>
  (mm_rc M v0 8).bind fun u37 =>
  (f_X7_factorOf M v0 v5 v1 v2).bind fun x37 =>
  some (.inl ((if (x31 * (x37.toInt64)) < v3 then v3 else (x31 * (x37.toInt64))), (v5 + 1)))
set_option maxRecDepth 20000 in
theorem w_X7_greatestBehind_24 {g : mm_c} (C : mm_ok g cX7_greatestBehind "LessonCards$LevelTest" (some .long) "greatestBehind" 6 1 25 0 0) {M : mm_M} {v0 : Option Nat} {v1 : Int32} {v2 : Int32} {v3 : Int64} {v5 : Int32} {res : (Int64 × Int32) ⊕ (Int64)} (hf : f_X7_greatestBehind_24 M v0 v1 v2 v3 v5 = some res) (ko : (mm_o (h_X7_greatestBehind_5 g M v0 v1 v2) (fun z => mm_q g 0 0 (some (mm_j z)) M)) res) : mm_X g 0 0 M 24 [(0, mm_r v0), (1, mm_i v1), (2, mm_i v2), (3, mm_j v3), (5, mm_i v5)] [] := by
  unfold f_X7_greatestBehind_24 at hf
  refine xr_lload_n 25 3 C dX7_greatestBehind_24 rfl rfl rfl ?_
  refine xr_aload_n 26 0 C dX7_greatestBehind_25 rfl rfl rfl ?_
  obtain ⟨x26, h26, hf⟩ := mm_bd_e hf
  refine xr_getR 29 C cf_X7_9 rfl h26 dX7_greatestBehind_26 rfl ?_
  refine xr_iload 31 4 C dX7_greatestBehind_29 rfl rfl ?_
  obtain ⟨x31, h31, hf⟩ := mm_bd_e hf
  refine xr_aldL 32 C h31 dX7_greatestBehind_31 rfl ?_
  refine xr_aload_n 33 0 C dX7_greatestBehind_32 rfl rfl rfl ?_
  refine xr_iload 35 4 C dX7_greatestBehind_33 rfl rfl ?_
  refine xr_iload_n 36 1 C dX7_greatestBehind_35 rfl rfl rfl ?_
  refine xr_iload_n 37 2 C dX7_greatestBehind_36 rfl rfl rfl ?_
  obtain ⟨u37, g37, hf⟩ := mm_bd_e hf
  obtain ⟨x37, h37, hf⟩ := mm_bd_e hf
  refine xr_callV 40 C [mm_i v5, mm_i v1, mm_i v2] cm_X7_44 (fun l G cy => c_X7_factorOf l G cy h37) g37 rfl rfl ⟨⟨Nat.le_of_ble_eq_true rfl, Nat.le_of_ble_eq_true rfl⟩, (Nat.le_of_ble_eq_true rfl), (Nat.le_of_ble_eq_true rfl)⟩ (Nat.le_of_ble_eq_true rfl) dX7_greatestBehind_37 rfl ?_
  refine xr_i2l 41 C dX7_greatestBehind_40 rfl ?_
  refine xr_lmul 42 C dX7_greatestBehind_41 rfl ?_
  refine xr_mmaxL 45 C wd_832 wd_645 wd_59 wd_646 ⟨Nat.le_of_ble_eq_true rfl, Nat.le_of_ble_eq_true rfl, (Nat.le_of_ble_eq_true rfl), (Nat.le_of_ble_eq_true rfl)⟩ (Nat.le_of_ble_eq_true rfl) dX7_greatestBehind_42 rfl ?_
  refine xr_lstore_n 46 C dX7_greatestBehind_45 rfl (by decide) rfl [(3, mm_j (if (x31 * (x37.toInt64)) < v3 then v3 else (x31 * (x37.toInt64)))), (0, mm_r v0), (1, mm_i v1), (2, mm_i v2), (5, mm_i v5)] rfl ?_
  refine xr_iinc 49 4 C dX7_greatestBehind_46 rfl (by decide) (v := 1) (by decide) rfl [(5, mm_i (v5 + 1)), (3, mm_j (if (x31 * (x37.toInt64)) < v3 then v3 else (x31 * (x37.toInt64)))), (0, mm_r v0), (1, mm_i v1), (2, mm_i v2)] rfl ?_
  refine xr_goto 5 C dX7_greatestBehind_49 (by decide) ?_
  refine xr_sub [2, 3, 4, 1, 0] (lv2 := [(0, mm_r v0), (1, mm_i v1), (2, mm_i v2), (3, mm_j (if (x31 * (x37.toInt64)) < v3 then v3 else (x31 * (x37.toInt64)))), (5, mm_i (v5 + 1))]) rfl ?_
  obtain rfl := Option.some.inj hf
  exact ko
noncomputable def f_X7_greatestBehind_52 (M : mm_M) (v3 : Int64) : Option (Int64) :=
  some v3
set_option maxRecDepth 20000 in
theorem w_X7_greatestBehind_52 {g : mm_c} (C : mm_ok g cX7_greatestBehind "LessonCards$LevelTest" (some .long) "greatestBehind" 6 1 25 0 0) {M : mm_M} {v3 : Int64} {res : Int64} (hf : f_X7_greatestBehind_52 M v3 = some res) (ko : (fun z => mm_q g 0 0 (some (mm_j z)) M) res) : mm_X g 0 0 M 52 [(3, mm_j v3)] [] := by
  unfold f_X7_greatestBehind_52 at hf
  refine xr_lload_n 53 0 C dX7_greatestBehind_52 rfl rfl rfl ?_
  obtain rfl := Option.some.inj hf
  exact xr_lret C ko ⟨(Nat.le_of_ble_eq_true rfl), (Nat.le_of_ble_eq_true rfl)⟩ dX7_greatestBehind_53
noncomputable def f_X7_greatestBehind_14 (M : mm_M) (v0 : Option Nat) (v1 : Int32) (v2 : Int32) (v3 : Int64) (v5 : Int32) : Option ((Int64 × Int32) ⊕ (Int64)) :=
  (mm_fR M v0 8 0).bind fun x17 =>
  (mm_ln M x17).bind fun x20 =>
  if x20 ≤ v5 then mm_mp (f_X7_greatestBehind_52 M v3) else f_X7_greatestBehind_24 M v0 v1 v2 v3 v5
set_option maxRecDepth 20000 in
theorem w_X7_greatestBehind_14 {g : mm_c} (C : mm_ok g cX7_greatestBehind "LessonCards$LevelTest" (some .long) "greatestBehind" 6 1 25 0 0) {M : mm_M} {v0 : Option Nat} {v1 : Int32} {v2 : Int32} {v3 : Int64} {v5 : Int32} {res : (Int64 × Int32) ⊕ (Int64)} (hf : f_X7_greatestBehind_14 M v0 v1 v2 v3 v5 = some res) (ko : (mm_o (h_X7_greatestBehind_5 g M v0 v1 v2) (fun z => mm_q g 0 0 (some (mm_j z)) M)) res) : mm_X g 0 0 M 14 [(0, mm_r v0), (1, mm_i v1), (2, mm_i v2), (3, mm_j v3), (5, mm_i v5)] [] := by
  unfold f_X7_greatestBehind_14 at hf
  refine xr_iload 16 4 C dX7_greatestBehind_14 rfl rfl ?_
  refine xr_aload_n 17 0 C dX7_greatestBehind_16 rfl rfl rfl ?_
  obtain ⟨x17, h17, hf⟩ := mm_bd_e hf
  refine xr_getR 20 C cf_X7_9 rfl h17 dX7_greatestBehind_17 rfl ?_
  obtain ⟨x20, h20, hf⟩ := mm_bd_e hf
  refine xr_alen 21 C h20 dX7_greatestBehind_20 rfl ?_
  refine xr_icmp_ge 52 24 C dX7_greatestBehind_21 (by decide) rfl (fun hc => ?_) (fun hc => ?_)
  · replace hf := (if_pos hc).symm.trans hf
    refine xr_sub [3] (lv2 := [(3, mm_j v3)]) rfl ?_
    obtain ⟨z, hf2, rfl⟩ := mm_mp_e hf
    clear hf
    have hf := hf2
    clear hf2
    exact w_X7_greatestBehind_52 C hf ko
  · replace hf := (if_neg hc).symm.trans hf
    exact w_X7_greatestBehind_24 C hf ko
noncomputable def f_X7_greatestBehind_5 (M : mm_M) (v0 : Option Nat) (v1 : Int32) (v2 : Int32) (v3 : Int64) (v5 : Int32) : Option ((Int64 × Int32) ⊕ (Int64)) :=
  (mm_fI M v0 8 1).bind fun x8 =>
  if x8 ≤ v5 then mm_mp (f_X7_greatestBehind_52 M v3) else f_X7_greatestBehind_14 M v0 v1 v2 v3 v5
set_option maxRecDepth 20000 in
theorem w_X7_greatestBehind_5 {g : mm_c} (C : mm_ok g cX7_greatestBehind "LessonCards$LevelTest" (some .long) "greatestBehind" 6 1 25 0 0) {M : mm_M} {v0 : Option Nat} {v1 : Int32} {v2 : Int32} {v3 : Int64} {v5 : Int32} {res : (Int64 × Int32) ⊕ (Int64)} (hf : f_X7_greatestBehind_5 M v0 v1 v2 v3 v5 = some res) (ko : (mm_o (h_X7_greatestBehind_5 g M v0 v1 v2) (fun z => mm_q g 0 0 (some (mm_j z)) M)) res) : mm_X g 0 0 M 5 [(0, mm_r v0), (1, mm_i v1), (2, mm_i v2), (3, mm_j v3), (5, mm_i v5)] [] := by
  unfold f_X7_greatestBehind_5 at hf
  refine xr_iload 7 4 C dX7_greatestBehind_5 rfl rfl ?_
  refine xr_aload_n 8 0 C dX7_greatestBehind_7 rfl rfl rfl ?_
  obtain ⟨x8, h8, hf⟩ := mm_bd_e hf
  refine xr_getI 11 C cf_X7_25 rfl h8 dX7_greatestBehind_8 rfl ?_
  refine xr_icmp_ge 52 14 C dX7_greatestBehind_11 (by decide) rfl (fun hc => ?_) (fun hc => ?_)
  · replace hf := (if_pos hc).symm.trans hf
    refine xr_sub [3] (lv2 := [(3, mm_j v3)]) rfl ?_
    obtain ⟨z, hf2, rfl⟩ := mm_mp_e hf
    clear hf
    have hf := hf2
    clear hf2
    exact w_X7_greatestBehind_52 C hf ko
  · replace hf := (if_neg hc).symm.trans hf
    exact w_X7_greatestBehind_14 C hf ko
noncomputable def f_X7_greatestBehind_5w (M : mm_M) (v0 : Option Nat) (v1 : Int32) (v2 : Int32) (v3 : Int64) (v5 : Int32) : Option (Int64) := mm_w (fun x => f_X7_greatestBehind_5 M v0 v1 v2 x.1 x.2) (v3, v5)
theorem l_X7_greatestBehind_5 {g : mm_c} (C : mm_ok g cX7_greatestBehind "LessonCards$LevelTest" (some .long) "greatestBehind" 6 1 25 0 0) {M : mm_M} {v0 : Option Nat} {v1 : Int32} {v2 : Int32} {v3 : Int64} {v5 : Int32} {res : Int64} (hf : f_X7_greatestBehind_5w M v0 v1 v2 v3 v5 = some res) (ko : (fun z => mm_q g 0 0 (some (mm_j z)) M) res) : mm_X g 0 0 M 5 [(0, mm_r v0), (1, mm_i v1), (2, mm_i v2), (3, mm_j v3), (5, mm_i v5)] [] :=
  mm_w_W (body := fun x => f_X7_greatestBehind_5 M v0 v1 v2 x.1 x.2) (Wh := h_X7_greatestBehind_5 g M v0 v1 v2) (ok := (fun z => mm_q g 0 0 (some (mm_j z)) M)) (x := (v3, v5)) (fun x r hb ho => w_X7_greatestBehind_5 C hb ho) hf ko
noncomputable def f_X7_greatestBehind_0 (M : mm_M) (v0 : Option Nat) (v1 : Int32) (v2 : Int32) : Option (Int64) :=
  f_X7_greatestBehind_5w M v0 v1 v2 0 0
set_option maxRecDepth 20000 in
theorem w_X7_greatestBehind_0 {g : mm_c} (C : mm_ok g cX7_greatestBehind "LessonCards$LevelTest" (some .long) "greatestBehind" 6 1 25 0 0) {M : mm_M} {v0 : Option Nat} {v1 : Int32} {v2 : Int32} {res : Int64} (hf : f_X7_greatestBehind_0 M v0 v1 v2 = some res) (ko : (fun z => mm_q g 0 0 (some (mm_j z)) M) res) : mm_X g 0 0 M 0 [(0, mm_r v0), (1, mm_i v1), (2, mm_i v2)] [] := by
  unfold f_X7_greatestBehind_0 at hf
  refine xr_lconst 1 C (v := 0) dX7_greatestBehind_0 (by decide) rfl ?_
  refine xr_lstore_n 2 C dX7_greatestBehind_1 rfl (by decide) rfl [(3, mm_j 0), (0, mm_r v0), (1, mm_i v1), (2, mm_i v2)] rfl ?_
  refine xr_iconst 3 C (v := 0) dX7_greatestBehind_2 (by decide) rfl ?_
  refine xr_istore 5 C dX7_greatestBehind_3 (by decide) rfl [(5, mm_i 0), (3, mm_j 0), (0, mm_r v0), (1, mm_i v1), (2, mm_i v2)] rfl ?_
  refine xr_sub [2, 3, 4, 1, 0] (lv2 := [(0, mm_r v0), (1, mm_i v1), (2, mm_i v2), (3, mm_j 0), (5, mm_i 0)]) rfl ?_
  exact l_X7_greatestBehind_5 C hf ko
noncomputable def f_X7_greatestBehind (M : mm_M) (v0 : Option Nat) (v1 : Int32) (v2 : Int32) : Option (Int64) := f_X7_greatestBehind_0 M v0 v1 v2
theorem c_X7_greatestBehind (l : Launch) (G : va_G) (cy : Nat → ClassId) {M : mm_M} {v0 : Option Nat} {v1 : Int32} {v2 : Int32} {r : Int64} (hf : f_X7_greatestBehind M v0 v1 v2 = some r) : mm_Met l yX7_greatestBehind cX7_greatestBehind 6 (some .long) 1 25 0 0 G cy [mm_r v0, mm_i v1, mm_i v2] M (some (mm_j r)) M :=
  mm_enter (by decide) (Nat.le_of_ble_eq_true rfl) (fun p e R s m args below meth c Q C hq => xr_sub [0, 1, 2] (lv2 := [(0, mm_r v0), (1, mm_i v1), (2, mm_i v2)]) rfl (w_X7_greatestBehind_0 C hf hq))
def h_X7_bestQuestion_7 (g : mm_c) (M : mm_M) (v0 : Option Nat) : (Int32 × Int64 × Int32) → Prop := fun x => mm_X g 0 0 M 7 [(0, mm_r v0), (1, mm_i x.1), (2, mm_j x.2.1), (4, mm_i x.2.2)] []
noncomputable def f_X7_bestQuestion_46 (M : mm_M) (v0 : Option Nat) (v1 : Int32) (v2 : Int64) (v4 : Int32) : Option ((Int32 × Int64 × Int32) ⊕ (Int32)) :=
  some (.inl (v1, v2, (v4 + 1)))
set_option maxRecDepth 20000 in
theorem w_X7_bestQuestion_46 {g : mm_c} (C : mm_ok g cX7_bestQuestion "LessonCards$LevelTest" (some .int) "bestQuestion" 7 2 50 0 0) {M : mm_M} {v0 : Option Nat} {v1 : Int32} {v2 : Int64} {v4 : Int32} {res : (Int32 × Int64 × Int32) ⊕ (Int32)} (hf : f_X7_bestQuestion_46 M v0 v1 v2 v4 = some res) (ko : (mm_o (h_X7_bestQuestion_7 g M v0) (fun z => mm_q g 0 0 (some (mm_i z)) M)) res) : mm_X g 0 0 M 46 [(0, mm_r v0), (1, mm_i v1), (2, mm_j v2), (4, mm_i v4)] [] := by
  unfold f_X7_bestQuestion_46 at hf
  refine xr_iinc 49 3 C dX7_bestQuestion_46 rfl (by decide) (v := 1) (by decide) rfl [(4, mm_i (v4 + 1)), (0, mm_r v0), (1, mm_i v1), (2, mm_j v2)] rfl ?_
  refine xr_goto 7 C dX7_bestQuestion_49 (by decide) ?_
  refine xr_sub [1, 2, 3, 0] (lv2 := [(0, mm_r v0), (1, mm_i v1), (2, mm_j v2), (4, mm_i (v4 + 1))]) rfl ?_
  obtain rfl := Option.some.inj hf
  exact ko
noncomputable def f_X7_bestQuestion_40 (M : mm_M) (v0 : Option Nat) (v4 : Int32) (v5 : Int64) : Option ((Int32 × Int64 × Int32) ⊕ (Int32)) :=
  f_X7_bestQuestion_46 M v0 v4 v5 v4
set_option maxRecDepth 20000 in
theorem w_X7_bestQuestion_40 {g : mm_c} (C : mm_ok g cX7_bestQuestion "LessonCards$LevelTest" (some .int) "bestQuestion" 7 2 50 0 0) {M : mm_M} {v0 : Option Nat} {v4 : Int32} {v5 : Int64} {res : (Int32 × Int64 × Int32) ⊕ (Int32)} (hf : f_X7_bestQuestion_40 M v0 v4 v5 = some res) (ko : (mm_o (h_X7_bestQuestion_7 g M v0) (fun z => mm_q g 0 0 (some (mm_i z)) M)) res) : mm_X g 0 0 M 40 [(0, mm_r v0), (4, mm_i v4), (5, mm_j v5)] [] := by
  unfold f_X7_bestQuestion_40 at hf
  refine xr_lload 42 2 C dX7_bestQuestion_40 rfl rfl ?_
  refine xr_lstore_n 43 C dX7_bestQuestion_42 rfl (by decide) rfl [(2, mm_j v5), (0, mm_r v0), (4, mm_i v4), (5, mm_j v5)] rfl ?_
  refine xr_iload 45 2 C dX7_bestQuestion_43 rfl rfl ?_
  refine xr_istore_n 46 C dX7_bestQuestion_45 rfl (by decide) rfl [(1, mm_i v4), (2, mm_j v5), (0, mm_r v0), (4, mm_i v4), (5, mm_j v5)] rfl ?_
  refine xr_sub [2, 0, 1, 3] (lv2 := [(0, mm_r v0), (1, mm_i v4), (2, mm_j v5), (4, mm_i v4)]) rfl ?_
  exact w_X7_bestQuestion_46 C hf ko
noncomputable def f_X7_bestQuestion_16 (M : mm_M) (v0 : Option Nat) (v1 : Int32) (v2 : Int64) (v4 : Int32) : Option ((Int32 × Int64 × Int32) ⊕ (Int32)) :=
  (mm_rc M v0 8).bind fun u20 =>
  (f_X7_greatestBehind M v0 v4 1).bind fun x20 =>
  (mm_rc M v0 8).bind fun u27 =>
  (f_X7_greatestBehind M v0 v4 0).bind fun x27 =>
  if (lg_cmp (x20 + x27) v2) ≤ 0 then f_X7_bestQuestion_46 M v0 v1 v2 v4 else f_X7_bestQuestion_40 M v0 v4 (x20 + x27)
set_option maxRecDepth 20000 in
theorem w_X7_bestQuestion_16 {g : mm_c} (C : mm_ok g cX7_bestQuestion "LessonCards$LevelTest" (some .int) "bestQuestion" 7 2 50 0 0) {M : mm_M} {v0 : Option Nat} {v1 : Int32} {v2 : Int64} {v4 : Int32} {res : (Int32 × Int64 × Int32) ⊕ (Int32)} (hf : f_X7_bestQuestion_16 M v0 v1 v2 v4 = some res) (ko : (mm_o (h_X7_bestQuestion_7 g M v0) (fun z => mm_q g 0 0 (some (mm_i z)) M)) res) : mm_X g 0 0 M 16 [(0, mm_r v0), (1, mm_i v1), (2, mm_j v2), (4, mm_i v4)] [] := by
  unfold f_X7_bestQuestion_16 at hf
  refine xr_aload_n 17 0 C dX7_bestQuestion_16 rfl rfl rfl ?_
  refine xr_iload 19 3 C dX7_bestQuestion_17 rfl rfl ?_
  refine xr_iconst 20 C (v := 1) dX7_bestQuestion_19 (by decide) rfl ?_
  obtain ⟨u20, g20, hf⟩ := mm_bd_e hf
  obtain ⟨x20, h20, hf⟩ := mm_bd_e hf
  refine xr_callV 23 C [mm_i v4, mm_i 1] cm_X7_40 (fun l G cy => c_X7_greatestBehind l G cy h20) g20 rfl rfl ⟨⟨Nat.le_of_ble_eq_true rfl, Nat.le_of_ble_eq_true rfl⟩, (Nat.le_of_ble_eq_true rfl), (Nat.le_of_ble_eq_true rfl)⟩ (Nat.le_of_ble_eq_true rfl) dX7_bestQuestion_20 rfl ?_
  refine xr_aload_n 24 0 C dX7_bestQuestion_23 rfl rfl rfl ?_
  refine xr_iload 26 3 C dX7_bestQuestion_24 rfl rfl ?_
  refine xr_iconst 27 C (v := 0) dX7_bestQuestion_26 (by decide) rfl ?_
  obtain ⟨u27, g27, hf⟩ := mm_bd_e hf
  obtain ⟨x27, h27, hf⟩ := mm_bd_e hf
  refine xr_callV 30 C [mm_i v4, mm_i 0] cm_X7_40 (fun l G cy => c_X7_greatestBehind l G cy h27) g27 rfl rfl ⟨⟨Nat.le_of_ble_eq_true rfl, Nat.le_of_ble_eq_true rfl⟩, (Nat.le_of_ble_eq_true rfl), (Nat.le_of_ble_eq_true rfl)⟩ (Nat.le_of_ble_eq_true rfl) dX7_bestQuestion_27 rfl ?_
  refine xr_ladd 31 C dX7_bestQuestion_30 rfl ?_
  refine xr_lstore 33 C dX7_bestQuestion_31 (by decide) rfl [(5, mm_j (x20 + x27)), (0, mm_r v0), (1, mm_i v1), (2, mm_j v2), (4, mm_i v4)] rfl ?_
  refine xr_lload 35 0 C dX7_bestQuestion_33 rfl rfl ?_
  refine xr_lload_n 36 3 C dX7_bestQuestion_35 rfl rfl rfl ?_
  refine xr_lcmp 37 C dX7_bestQuestion_36 rfl ?_
  refine xr_if_le 46 40 C dX7_bestQuestion_37 (by decide) rfl (fun hc => ?_) (fun hc => ?_)
  · replace hf := (if_pos hc).symm.trans hf
    refine xr_sub [1, 2, 3, 4] (lv2 := [(0, mm_r v0), (1, mm_i v1), (2, mm_j v2), (4, mm_i v4)]) rfl ?_
    exact w_X7_bestQuestion_46 C hf ko
  · replace hf := (if_neg hc).symm.trans hf
    refine xr_sub [1, 4, 0] (lv2 := [(0, mm_r v0), (4, mm_i v4), (5, mm_j (x20 + x27))]) rfl ?_
    exact w_X7_bestQuestion_40 C hf ko
noncomputable def f_X7_bestQuestion_52 (M : mm_M) (v1 : Int32) : Option (Int32) :=
  some v1
set_option maxRecDepth 20000 in
theorem w_X7_bestQuestion_52 {g : mm_c} (C : mm_ok g cX7_bestQuestion "LessonCards$LevelTest" (some .int) "bestQuestion" 7 2 50 0 0) {M : mm_M} {v1 : Int32} {res : Int32} (hf : f_X7_bestQuestion_52 M v1 = some res) (ko : (fun z => mm_q g 0 0 (some (mm_i z)) M) res) : mm_X g 0 0 M 52 [(1, mm_i v1)] [] := by
  unfold f_X7_bestQuestion_52 at hf
  refine xr_iload_n 53 0 C dX7_bestQuestion_52 rfl rfl rfl ?_
  obtain rfl := Option.some.inj hf
  exact xr_iret C ko ⟨(Nat.le_of_ble_eq_true rfl), (Nat.le_of_ble_eq_true rfl)⟩ dX7_bestQuestion_53
noncomputable def f_X7_bestQuestion_7 (M : mm_M) (v0 : Option Nat) (v1 : Int32) (v2 : Int64) (v4 : Int32) : Option ((Int32 × Int64 × Int32) ⊕ (Int32)) :=
  (mm_fI M v0 8 1).bind fun x10 =>
  if x10 ≤ v4 then mm_mp (f_X7_bestQuestion_52 M v1) else f_X7_bestQuestion_16 M v0 v1 v2 v4
set_option maxRecDepth 20000 in
theorem w_X7_bestQuestion_7 {g : mm_c} (C : mm_ok g cX7_bestQuestion "LessonCards$LevelTest" (some .int) "bestQuestion" 7 2 50 0 0) {M : mm_M} {v0 : Option Nat} {v1 : Int32} {v2 : Int64} {v4 : Int32} {res : (Int32 × Int64 × Int32) ⊕ (Int32)} (hf : f_X7_bestQuestion_7 M v0 v1 v2 v4 = some res) (ko : (mm_o (h_X7_bestQuestion_7 g M v0) (fun z => mm_q g 0 0 (some (mm_i z)) M)) res) : mm_X g 0 0 M 7 [(0, mm_r v0), (1, mm_i v1), (2, mm_j v2), (4, mm_i v4)] [] := by
  unfold f_X7_bestQuestion_7 at hf
  refine xr_iload 9 3 C dX7_bestQuestion_7 rfl rfl ?_
  refine xr_aload_n 10 0 C dX7_bestQuestion_9 rfl rfl rfl ?_
  obtain ⟨x10, h10, hf⟩ := mm_bd_e hf
  refine xr_getI 13 C cf_X7_25 rfl h10 dX7_bestQuestion_10 rfl ?_
  refine xr_icmp_ge 52 16 C dX7_bestQuestion_13 (by decide) rfl (fun hc => ?_) (fun hc => ?_)
  · replace hf := (if_pos hc).symm.trans hf
    refine xr_sub [1] (lv2 := [(1, mm_i v1)]) rfl ?_
    obtain ⟨z, hf2, rfl⟩ := mm_mp_e hf
    clear hf
    have hf := hf2
    clear hf2
    exact w_X7_bestQuestion_52 C hf ko
  · replace hf := (if_neg hc).symm.trans hf
    exact w_X7_bestQuestion_16 C hf ko
noncomputable def f_X7_bestQuestion_7w (M : mm_M) (v0 : Option Nat) (v1 : Int32) (v2 : Int64) (v4 : Int32) : Option (Int32) := mm_w (fun x => f_X7_bestQuestion_7 M v0 x.1 x.2.1 x.2.2) (v1, v2, v4)
theorem l_X7_bestQuestion_7 {g : mm_c} (C : mm_ok g cX7_bestQuestion "LessonCards$LevelTest" (some .int) "bestQuestion" 7 2 50 0 0) {M : mm_M} {v0 : Option Nat} {v1 : Int32} {v2 : Int64} {v4 : Int32} {res : Int32} (hf : f_X7_bestQuestion_7w M v0 v1 v2 v4 = some res) (ko : (fun z => mm_q g 0 0 (some (mm_i z)) M) res) : mm_X g 0 0 M 7 [(0, mm_r v0), (1, mm_i v1), (2, mm_j v2), (4, mm_i v4)] [] :=
  mm_w_W (body := fun x => f_X7_bestQuestion_7 M v0 x.1 x.2.1 x.2.2) (Wh := h_X7_bestQuestion_7 g M v0) (ok := (fun z => mm_q g 0 0 (some (mm_i z)) M)) (x := (v1, v2, v4)) (fun x r hb ho => w_X7_bestQuestion_7 C hb ho) hf ko
noncomputable def f_X7_bestQuestion_0 (M : mm_M) (v0 : Option Nat) : Option (Int32) :=
  f_X7_bestQuestion_7w M v0 1 0 1
set_option maxRecDepth 20000 in
theorem w_X7_bestQuestion_0 {g : mm_c} (C : mm_ok g cX7_bestQuestion "LessonCards$LevelTest" (some .int) "bestQuestion" 7 2 50 0 0) {M : mm_M} {v0 : Option Nat} {res : Int32} (hf : f_X7_bestQuestion_0 M v0 = some res) (ko : (fun z => mm_q g 0 0 (some (mm_i z)) M) res) : mm_X g 0 0 M 0 [(0, mm_r v0)] [] := by
  unfold f_X7_bestQuestion_0 at hf
  refine xr_iconst 1 C (v := 1) dX7_bestQuestion_0 (by decide) rfl ?_
  refine xr_istore_n 2 C dX7_bestQuestion_1 rfl (by decide) rfl [(1, mm_i 1), (0, mm_r v0)] rfl ?_
  refine xr_lconst 3 C (v := 0) dX7_bestQuestion_2 (by decide) rfl ?_
  refine xr_lstore_n 4 C dX7_bestQuestion_3 rfl (by decide) rfl [(2, mm_j 0), (1, mm_i 1), (0, mm_r v0)] rfl ?_
  refine xr_iconst 5 C (v := 1) dX7_bestQuestion_4 (by decide) rfl ?_
  refine xr_istore 7 C dX7_bestQuestion_5 (by decide) rfl [(4, mm_i 1), (2, mm_j 0), (1, mm_i 1), (0, mm_r v0)] rfl ?_
  refine xr_sub [3, 2, 1, 0] (lv2 := [(0, mm_r v0), (1, mm_i 1), (2, mm_j 0), (4, mm_i 1)]) rfl ?_
  exact l_X7_bestQuestion_7 C hf ko
noncomputable def f_X7_bestQuestion (M : mm_M) (v0 : Option Nat) : Option (Int32) := f_X7_bestQuestion_0 M v0
theorem c_X7_bestQuestion (l : Launch) (G : va_G) (cy : Nat → ClassId) {M : mm_M} {v0 : Option Nat} {r : Int32} (hf : f_X7_bestQuestion M v0 = some r) : mm_Met l yX7_bestQuestion cX7_bestQuestion 7 (some .int) 2 50 0 0 G cy [mm_r v0] M (some (mm_i r)) M :=
  mm_enter (by decide) (Nat.le_of_ble_eq_true rfl) (fun p e R s m args below meth c Q C hq => xr_sub [0] (lv2 := [(0, mm_r v0)]) rfl (w_X7_bestQuestion_0 C hf hq))
def h_X7_isClear_7 (g : mm_c) (M : mm_M) (v0 : Option Nat) : (Int64 × Int64 × Int32) → Prop := fun x => mm_X g 0 0 M 7 [(0, mm_r v0), (1, mm_j x.1), (3, mm_j x.2.1), (5, mm_i x.2.2)] []
noncomputable def f_X7_isClear_26 (M : mm_M) (v0 : Option Nat) (v1 : Int64) (v3 : Int64) (v5 : Int32) : Option ((Int64 × Int64 × Int32) ⊕ (Int32)) :=
  (mm_fR M v0 8 0).bind fun x28 =>
  (mm_aL M x28 v5).bind fun x33 =>
  (mm_fR M v0 8 0).bind fun x40 =>
  (mm_aL M x40 v5).bind fun x45 =>
  some (.inl ((if x33 < v1 then v1 else x33), (v3 + x45), (v5 + 1)))
set_option maxRecDepth 20000 in
theorem w_X7_isClear_26 {g : mm_c} (C : mm_ok g cX7_isClear "LessonCards$LevelTest" (some .boolean) "isClear" 6 1 25 0 0) {M : mm_M} {v0 : Option Nat} {v1 : Int64} {v3 : Int64} {v5 : Int32} {res : (Int64 × Int64 × Int32) ⊕ (Int32)} (hf : f_X7_isClear_26 M v0 v1 v3 v5 = some res) (ko : (mm_o (h_X7_isClear_7 g M v0) (fun z => mm_q g 0 0 (some (mm_i z)) M)) res) : mm_X g 0 0 M 26 [(0, mm_r v0), (1, mm_j v1), (3, mm_j v3), (5, mm_i v5)] [] := by
  unfold f_X7_isClear_26 at hf
  refine xr_lload_n 27 1 C dX7_isClear_26 rfl rfl rfl ?_
  refine xr_aload_n 28 0 C dX7_isClear_27 rfl rfl rfl ?_
  obtain ⟨x28, h28, hf⟩ := mm_bd_e hf
  refine xr_getR 31 C cf_X7_9 rfl h28 dX7_isClear_28 rfl ?_
  refine xr_iload 33 3 C dX7_isClear_31 rfl rfl ?_
  obtain ⟨x33, h33, hf⟩ := mm_bd_e hf
  refine xr_aldL 34 C h33 dX7_isClear_33 rfl ?_
  refine xr_mmaxL 37 C wd_832 wd_645 wd_59 wd_646 ⟨Nat.le_of_ble_eq_true rfl, Nat.le_of_ble_eq_true rfl, (Nat.le_of_ble_eq_true rfl), (Nat.le_of_ble_eq_true rfl)⟩ (Nat.le_of_ble_eq_true rfl) dX7_isClear_34 rfl ?_
  refine xr_lstore_n 38 C dX7_isClear_37 rfl (by decide) rfl [(1, mm_j (if x33 < v1 then v1 else x33)), (0, mm_r v0), (3, mm_j v3), (5, mm_i v5)] rfl ?_
  refine xr_lload_n 39 2 C dX7_isClear_38 rfl rfl rfl ?_
  refine xr_aload_n 40 1 C dX7_isClear_39 rfl rfl rfl ?_
  obtain ⟨x40, h40, hf⟩ := mm_bd_e hf
  refine xr_getR 43 C cf_X7_9 rfl h40 dX7_isClear_40 rfl ?_
  refine xr_iload 45 3 C dX7_isClear_43 rfl rfl ?_
  obtain ⟨x45, h45, hf⟩ := mm_bd_e hf
  refine xr_aldL 46 C h45 dX7_isClear_45 rfl ?_
  refine xr_ladd 47 C dX7_isClear_46 rfl ?_
  refine xr_lstore_n 48 C dX7_isClear_47 rfl (by decide) rfl [(3, mm_j (v3 + x45)), (1, mm_j (if x33 < v1 then v1 else x33)), (0, mm_r v0), (5, mm_i v5)] rfl ?_
  refine xr_iinc 51 3 C dX7_isClear_48 rfl (by decide) (v := 1) (by decide) rfl [(5, mm_i (v5 + 1)), (3, mm_j (v3 + x45)), (1, mm_j (if x33 < v1 then v1 else x33)), (0, mm_r v0)] rfl ?_
  refine xr_goto 7 C dX7_isClear_51 (by decide) ?_
  refine xr_sub [3, 2, 1, 0] (lv2 := [(0, mm_r v0), (1, mm_j (if x33 < v1 then v1 else x33)), (3, mm_j (v3 + x45)), (5, mm_i (v5 + 1))]) rfl ?_
  obtain rfl := Option.some.inj hf
  exact ko
noncomputable def f_X7_isClear_71 (M : mm_M) (s0 : Int32) : Option (Int32) :=
  mm_gd (s0 = 0 ∨ s0 = 1) <|
  some s0
set_option maxRecDepth 20000 in
theorem w_X7_isClear_71 {g : mm_c} (C : mm_ok g cX7_isClear "LessonCards$LevelTest" (some .boolean) "isClear" 6 1 25 0 0) {M : mm_M} {s0 : Int32} {res : Int32} (hf : f_X7_isClear_71 M s0 = some res) (ko : (fun z => mm_q g 0 0 (some (mm_i z)) M) res) : mm_X g 0 0 M 71 [] [mm_i s0] := by
  unfold f_X7_isClear_71 at hf
  obtain ⟨hz, hf⟩ := mm_gd_e hf
  obtain rfl := Option.some.inj hf
  exact xr_zret C hz ko ⟨(Nat.le_of_ble_eq_true rfl), (Nat.le_of_ble_eq_true rfl)⟩ dX7_isClear_71
noncomputable def f_X7_isClear_66 (M : mm_M) : Option (Int32) :=
  f_X7_isClear_71 M 1
set_option maxRecDepth 20000 in
theorem w_X7_isClear_66 {g : mm_c} (C : mm_ok g cX7_isClear "LessonCards$LevelTest" (some .boolean) "isClear" 6 1 25 0 0) {M : mm_M} {res : Int32} (hf : f_X7_isClear_66 M = some res) (ko : (fun z => mm_q g 0 0 (some (mm_i z)) M) res) : mm_X g 0 0 M 66 [] [] := by
  unfold f_X7_isClear_66 at hf
  refine xr_iconst 67 C (v := 1) dX7_isClear_66 (by decide) rfl ?_
  refine xr_goto 71 C dX7_isClear_67 (by decide) ?_
  exact w_X7_isClear_71 C hf ko
noncomputable def f_X7_isClear_70 (M : mm_M) : Option (Int32) :=
  f_X7_isClear_71 M 0
set_option maxRecDepth 20000 in
theorem w_X7_isClear_70 {g : mm_c} (C : mm_ok g cX7_isClear "LessonCards$LevelTest" (some .boolean) "isClear" 6 1 25 0 0) {M : mm_M} {res : Int32} (hf : f_X7_isClear_70 M = some res) (ko : (fun z => mm_q g 0 0 (some (mm_i z)) M) res) : mm_X g 0 0 M 70 [] [] := by
  unfold f_X7_isClear_70 at hf
  refine xr_iconst 71 C (v := 0) dX7_isClear_70 (by decide) rfl ?_
  exact w_X7_isClear_71 C hf ko
noncomputable def f_X7_isClear_54 (M : mm_M) (v1 : Int64) (v3 : Int64) : Option (Int32) :=
  if (lg_cmp (v1 / 9) (v3 - v1)) < 0 then f_X7_isClear_70 M else f_X7_isClear_66 M
set_option maxRecDepth 20000 in
theorem w_X7_isClear_54 {g : mm_c} (C : mm_ok g cX7_isClear "LessonCards$LevelTest" (some .boolean) "isClear" 6 1 25 0 0) {M : mm_M} {v1 : Int64} {v3 : Int64} {res : Int32} (hf : f_X7_isClear_54 M v1 v3 = some res) (ko : (fun z => mm_q g 0 0 (some (mm_i z)) M) res) : mm_X g 0 0 M 54 [(1, mm_j v1), (3, mm_j v3)] [] := by
  unfold f_X7_isClear_54 at hf
  refine xr_lload_n 55 0 C dX7_isClear_54 rfl rfl rfl ?_
  refine xr_ldc2 58 C wd_848 dX7_isClear_55 rfl ?_
  refine xr_ldiv 59 C dX7_isClear_58 (by decide) rfl ?_
  refine xr_lload_n 60 1 C dX7_isClear_59 rfl rfl rfl ?_
  refine xr_lload_n 61 0 C dX7_isClear_60 rfl rfl rfl ?_
  refine xr_lsub 62 C dX7_isClear_61 rfl ?_
  refine xr_lcmp 63 C dX7_isClear_62 rfl ?_
  refine xr_if_lt 70 66 C dX7_isClear_63 (by decide) rfl (fun hc => ?_) (fun hc => ?_)
  · replace hf := (if_pos hc).symm.trans hf
    refine xr_sub [] (lv2 := []) rfl ?_
    exact w_X7_isClear_70 C hf ko
  · replace hf := (if_neg hc).symm.trans hf
    refine xr_sub [] (lv2 := []) rfl ?_
    exact w_X7_isClear_66 C hf ko
noncomputable def f_X7_isClear_16 (M : mm_M) (v0 : Option Nat) (v1 : Int64) (v3 : Int64) (v5 : Int32) : Option ((Int64 × Int64 × Int32) ⊕ (Int32)) :=
  (mm_fR M v0 8 0).bind fun x19 =>
  (mm_ln M x19).bind fun x22 =>
  if x22 ≤ v5 then mm_mp (f_X7_isClear_54 M v1 v3) else f_X7_isClear_26 M v0 v1 v3 v5
set_option maxRecDepth 20000 in
theorem w_X7_isClear_16 {g : mm_c} (C : mm_ok g cX7_isClear "LessonCards$LevelTest" (some .boolean) "isClear" 6 1 25 0 0) {M : mm_M} {v0 : Option Nat} {v1 : Int64} {v3 : Int64} {v5 : Int32} {res : (Int64 × Int64 × Int32) ⊕ (Int32)} (hf : f_X7_isClear_16 M v0 v1 v3 v5 = some res) (ko : (mm_o (h_X7_isClear_7 g M v0) (fun z => mm_q g 0 0 (some (mm_i z)) M)) res) : mm_X g 0 0 M 16 [(0, mm_r v0), (1, mm_j v1), (3, mm_j v3), (5, mm_i v5)] [] := by
  unfold f_X7_isClear_16 at hf
  refine xr_iload 18 3 C dX7_isClear_16 rfl rfl ?_
  refine xr_aload_n 19 0 C dX7_isClear_18 rfl rfl rfl ?_
  obtain ⟨x19, h19, hf⟩ := mm_bd_e hf
  refine xr_getR 22 C cf_X7_9 rfl h19 dX7_isClear_19 rfl ?_
  obtain ⟨x22, h22, hf⟩ := mm_bd_e hf
  refine xr_alen 23 C h22 dX7_isClear_22 rfl ?_
  refine xr_icmp_ge 54 26 C dX7_isClear_23 (by decide) rfl (fun hc => ?_) (fun hc => ?_)
  · replace hf := (if_pos hc).symm.trans hf
    refine xr_sub [1, 2] (lv2 := [(1, mm_j v1), (3, mm_j v3)]) rfl ?_
    obtain ⟨z, hf2, rfl⟩ := mm_mp_e hf
    clear hf
    have hf := hf2
    clear hf2
    exact w_X7_isClear_54 C hf ko
  · replace hf := (if_neg hc).symm.trans hf
    exact w_X7_isClear_26 C hf ko
noncomputable def f_X7_isClear_7 (M : mm_M) (v0 : Option Nat) (v1 : Int64) (v3 : Int64) (v5 : Int32) : Option ((Int64 × Int64 × Int32) ⊕ (Int32)) :=
  (mm_fI M v0 8 1).bind fun x10 =>
  if x10 ≤ v5 then mm_mp (f_X7_isClear_54 M v1 v3) else f_X7_isClear_16 M v0 v1 v3 v5
set_option maxRecDepth 20000 in
theorem w_X7_isClear_7 {g : mm_c} (C : mm_ok g cX7_isClear "LessonCards$LevelTest" (some .boolean) "isClear" 6 1 25 0 0) {M : mm_M} {v0 : Option Nat} {v1 : Int64} {v3 : Int64} {v5 : Int32} {res : (Int64 × Int64 × Int32) ⊕ (Int32)} (hf : f_X7_isClear_7 M v0 v1 v3 v5 = some res) (ko : (mm_o (h_X7_isClear_7 g M v0) (fun z => mm_q g 0 0 (some (mm_i z)) M)) res) : mm_X g 0 0 M 7 [(0, mm_r v0), (1, mm_j v1), (3, mm_j v3), (5, mm_i v5)] [] := by
  unfold f_X7_isClear_7 at hf
  refine xr_iload 9 3 C dX7_isClear_7 rfl rfl ?_
  refine xr_aload_n 10 0 C dX7_isClear_9 rfl rfl rfl ?_
  obtain ⟨x10, h10, hf⟩ := mm_bd_e hf
  refine xr_getI 13 C cf_X7_25 rfl h10 dX7_isClear_10 rfl ?_
  refine xr_icmp_ge 54 16 C dX7_isClear_13 (by decide) rfl (fun hc => ?_) (fun hc => ?_)
  · replace hf := (if_pos hc).symm.trans hf
    refine xr_sub [1, 2] (lv2 := [(1, mm_j v1), (3, mm_j v3)]) rfl ?_
    obtain ⟨z, hf2, rfl⟩ := mm_mp_e hf
    clear hf
    have hf := hf2
    clear hf2
    exact w_X7_isClear_54 C hf ko
  · replace hf := (if_neg hc).symm.trans hf
    exact w_X7_isClear_16 C hf ko
noncomputable def f_X7_isClear_7w (M : mm_M) (v0 : Option Nat) (v1 : Int64) (v3 : Int64) (v5 : Int32) : Option (Int32) := mm_w (fun x => f_X7_isClear_7 M v0 x.1 x.2.1 x.2.2) (v1, v3, v5)
theorem l_X7_isClear_7 {g : mm_c} (C : mm_ok g cX7_isClear "LessonCards$LevelTest" (some .boolean) "isClear" 6 1 25 0 0) {M : mm_M} {v0 : Option Nat} {v1 : Int64} {v3 : Int64} {v5 : Int32} {res : Int32} (hf : f_X7_isClear_7w M v0 v1 v3 v5 = some res) (ko : (fun z => mm_q g 0 0 (some (mm_i z)) M) res) : mm_X g 0 0 M 7 [(0, mm_r v0), (1, mm_j v1), (3, mm_j v3), (5, mm_i v5)] [] :=
  mm_w_W (body := fun x => f_X7_isClear_7 M v0 x.1 x.2.1 x.2.2) (Wh := h_X7_isClear_7 g M v0) (ok := (fun z => mm_q g 0 0 (some (mm_i z)) M)) (x := (v1, v3, v5)) (fun x r hb ho => w_X7_isClear_7 C hb ho) hf ko
noncomputable def f_X7_isClear_0 (M : mm_M) (v0 : Option Nat) : Option (Int32) :=
  f_X7_isClear_7w M v0 0 0 0
set_option maxRecDepth 20000 in
theorem w_X7_isClear_0 {g : mm_c} (C : mm_ok g cX7_isClear "LessonCards$LevelTest" (some .boolean) "isClear" 6 1 25 0 0) {M : mm_M} {v0 : Option Nat} {res : Int32} (hf : f_X7_isClear_0 M v0 = some res) (ko : (fun z => mm_q g 0 0 (some (mm_i z)) M) res) : mm_X g 0 0 M 0 [(0, mm_r v0)] [] := by
  unfold f_X7_isClear_0 at hf
  refine xr_lconst 1 C (v := 0) dX7_isClear_0 (by decide) rfl ?_
  refine xr_lstore_n 2 C dX7_isClear_1 rfl (by decide) rfl [(1, mm_j 0), (0, mm_r v0)] rfl ?_
  refine xr_lconst 3 C (v := 0) dX7_isClear_2 (by decide) rfl ?_
  refine xr_lstore_n 4 C dX7_isClear_3 rfl (by decide) rfl [(3, mm_j 0), (1, mm_j 0), (0, mm_r v0)] rfl ?_
  refine xr_iconst 5 C (v := 0) dX7_isClear_4 (by decide) rfl ?_
  refine xr_istore 7 C dX7_isClear_5 (by decide) rfl [(5, mm_i 0), (3, mm_j 0), (1, mm_j 0), (0, mm_r v0)] rfl ?_
  refine xr_sub [3, 2, 1, 0] (lv2 := [(0, mm_r v0), (1, mm_j 0), (3, mm_j 0), (5, mm_i 0)]) rfl ?_
  exact l_X7_isClear_7 C hf ko
noncomputable def f_X7_isClear (M : mm_M) (v0 : Option Nat) : Option (Int32) := f_X7_isClear_0 M v0
theorem c_X7_isClear (l : Launch) (G : va_G) (cy : Nat → ClassId) {M : mm_M} {v0 : Option Nat} {r : Int32} (hf : f_X7_isClear M v0 = some r) : mm_Met l yX7_isClear cX7_isClear 6 (some .boolean) 1 25 0 0 G cy [mm_r v0] M (some (mm_i r)) M :=
  mm_enter (by decide) (Nat.le_of_ble_eq_true rfl) (fun p e R s m args below meth c Q C hq => xr_sub [0] (lv2 := [(0, mm_r v0)]) rfl (w_X7_isClear_0 C hf hq))
def h_X7_commonDivisor_9 (g : mm_c) (M : mm_M) : (Int64 × Int64 × Int32) → Prop := fun x => mm_X g 0 0 M 9 [(4, mm_j x.1), (6, mm_j x.2.1), (8, mm_i x.2.2)] []
noncomputable def f_X7_commonDivisor_24 (M : mm_M) (v4 : Int64) (v6 : Int64) (v8 : Int32) : Option ((Int64 × Int64 × Int32) ⊕ (Int64)) :=
  (mm_mL v4 v6).bind fun x28 =>
  some (.inl (v6, x28, (v8 + 1)))
set_option maxRecDepth 20000 in
theorem w_X7_commonDivisor_24 {g : mm_c} (C : mm_ok g cX7_commonDivisor "LessonCards$LevelTest" (some .long) "commonDivisor" 11 0 0 0 0) {M : mm_M} {v4 : Int64} {v6 : Int64} {v8 : Int32} {res : (Int64 × Int64 × Int32) ⊕ (Int64)} (hf : f_X7_commonDivisor_24 M v4 v6 v8 = some res) (ko : (mm_o (h_X7_commonDivisor_9 g M) (fun z => mm_q g 0 0 (some (mm_j z)) M)) res) : mm_X g 0 0 M 24 [(4, mm_j v4), (6, mm_j v6), (8, mm_i v8)] [] := by
  unfold f_X7_commonDivisor_24 at hf
  refine xr_lload 26 0 C dX7_commonDivisor_24 rfl rfl ?_
  refine xr_lload 28 1 C dX7_commonDivisor_26 rfl rfl ?_
  obtain ⟨x28, h28, hf⟩ := mm_bd_e hf
  refine xr_lremv 29 C h28 dX7_commonDivisor_28 rfl ?_
  refine xr_lstore 31 C dX7_commonDivisor_29 (by decide) rfl [(9, mm_j x28), (4, mm_j v4), (6, mm_j v6), (8, mm_i v8)] rfl ?_
  refine xr_lload 33 2 C dX7_commonDivisor_31 rfl rfl ?_
  refine xr_lstore 35 C dX7_commonDivisor_33 (by decide) rfl [(4, mm_j v6), (9, mm_j x28), (6, mm_j v6), (8, mm_i v8)] rfl ?_
  refine xr_lload 37 1 C dX7_commonDivisor_35 rfl rfl ?_
  refine xr_lstore 39 C dX7_commonDivisor_37 (by decide) rfl [(6, mm_j x28), (4, mm_j v6), (9, mm_j x28), (8, mm_i v8)] rfl ?_
  refine xr_iinc 42 3 C dX7_commonDivisor_39 rfl (by decide) (v := 1) (by decide) rfl [(8, mm_i (v8 + 1)), (6, mm_j x28), (4, mm_j v6), (9, mm_j x28)] rfl ?_
  refine xr_goto 9 C dX7_commonDivisor_42 (by decide) ?_
  refine xr_sub [2, 1, 0] (lv2 := [(4, mm_j v6), (6, mm_j x28), (8, mm_i (v8 + 1))]) rfl ?_
  obtain rfl := Option.some.inj hf
  exact ko
noncomputable def f_X7_commonDivisor_45 (M : mm_M) (v4 : Int64) : Option (Int64) :=
  some v4
set_option maxRecDepth 20000 in
theorem w_X7_commonDivisor_45 {g : mm_c} (C : mm_ok g cX7_commonDivisor "LessonCards$LevelTest" (some .long) "commonDivisor" 11 0 0 0 0) {M : mm_M} {v4 : Int64} {res : Int64} (hf : f_X7_commonDivisor_45 M v4 = some res) (ko : (fun z => mm_q g 0 0 (some (mm_j z)) M) res) : mm_X g 0 0 M 45 [(4, mm_j v4)] [] := by
  unfold f_X7_commonDivisor_45 at hf
  refine xr_lload 47 0 C dX7_commonDivisor_45 rfl rfl ?_
  obtain rfl := Option.some.inj hf
  exact xr_lret C ko ⟨(Nat.le_of_ble_eq_true rfl), (Nat.le_of_ble_eq_true rfl)⟩ dX7_commonDivisor_47
noncomputable def f_X7_commonDivisor_17 (M : mm_M) (v4 : Int64) (v6 : Int64) (v8 : Int32) : Option ((Int64 × Int64 × Int32) ⊕ (Int64)) :=
  if (lg_cmp v6 0) = 0 then mm_mp (f_X7_commonDivisor_45 M v4) else f_X7_commonDivisor_24 M v4 v6 v8
set_option maxRecDepth 20000 in
theorem w_X7_commonDivisor_17 {g : mm_c} (C : mm_ok g cX7_commonDivisor "LessonCards$LevelTest" (some .long) "commonDivisor" 11 0 0 0 0) {M : mm_M} {v4 : Int64} {v6 : Int64} {v8 : Int32} {res : (Int64 × Int64 × Int32) ⊕ (Int64)} (hf : f_X7_commonDivisor_17 M v4 v6 v8 = some res) (ko : (mm_o (h_X7_commonDivisor_9 g M) (fun z => mm_q g 0 0 (some (mm_j z)) M)) res) : mm_X g 0 0 M 17 [(4, mm_j v4), (6, mm_j v6), (8, mm_i v8)] [] := by
  unfold f_X7_commonDivisor_17 at hf
  refine xr_lload 19 1 C dX7_commonDivisor_17 rfl rfl ?_
  refine xr_lconst 20 C (v := 0) dX7_commonDivisor_19 (by decide) rfl ?_
  refine xr_lcmp 21 C dX7_commonDivisor_20 rfl ?_
  refine xr_if_eq 45 24 C dX7_commonDivisor_21 (by decide) rfl (fun hc => ?_) (fun hc => ?_)
  · replace hf := (if_pos hc).symm.trans hf
    refine xr_sub [0] (lv2 := [(4, mm_j v4)]) rfl ?_
    obtain ⟨z, hf2, rfl⟩ := mm_mp_e hf
    clear hf
    have hf := hf2
    clear hf2
    exact w_X7_commonDivisor_45 C hf ko
  · replace hf := (if_neg hc).symm.trans hf
    exact w_X7_commonDivisor_24 C hf ko
noncomputable def f_X7_commonDivisor_9 (M : mm_M) (v4 : Int64) (v6 : Int64) (v8 : Int32) : Option ((Int64 × Int64 × Int32) ⊕ (Int64)) :=
  if 200 ≤ v8 then mm_mp (f_X7_commonDivisor_45 M v4) else f_X7_commonDivisor_17 M v4 v6 v8
set_option maxRecDepth 20000 in
theorem w_X7_commonDivisor_9 {g : mm_c} (C : mm_ok g cX7_commonDivisor "LessonCards$LevelTest" (some .long) "commonDivisor" 11 0 0 0 0) {M : mm_M} {v4 : Int64} {v6 : Int64} {v8 : Int32} {res : (Int64 × Int64 × Int32) ⊕ (Int64)} (hf : f_X7_commonDivisor_9 M v4 v6 v8 = some res) (ko : (mm_o (h_X7_commonDivisor_9 g M) (fun z => mm_q g 0 0 (some (mm_j z)) M)) res) : mm_X g 0 0 M 9 [(4, mm_j v4), (6, mm_j v6), (8, mm_i v8)] [] := by
  unfold f_X7_commonDivisor_9 at hf
  refine xr_iload 11 2 C dX7_commonDivisor_9 rfl rfl ?_
  refine xr_sipush 14 C (v := 200) dX7_commonDivisor_11 (by decide) rfl ?_
  refine xr_icmp_ge 45 17 C dX7_commonDivisor_14 (by decide) rfl (fun hc => ?_) (fun hc => ?_)
  · replace hf := (if_pos hc).symm.trans hf
    refine xr_sub [0] (lv2 := [(4, mm_j v4)]) rfl ?_
    obtain ⟨z, hf2, rfl⟩ := mm_mp_e hf
    clear hf
    have hf := hf2
    clear hf2
    exact w_X7_commonDivisor_45 C hf ko
  · replace hf := (if_neg hc).symm.trans hf
    exact w_X7_commonDivisor_17 C hf ko
noncomputable def f_X7_commonDivisor_9w (M : mm_M) (v4 : Int64) (v6 : Int64) (v8 : Int32) : Option (Int64) := mm_w (fun x => f_X7_commonDivisor_9 M x.1 x.2.1 x.2.2) (v4, v6, v8)
theorem l_X7_commonDivisor_9 {g : mm_c} (C : mm_ok g cX7_commonDivisor "LessonCards$LevelTest" (some .long) "commonDivisor" 11 0 0 0 0) {M : mm_M} {v4 : Int64} {v6 : Int64} {v8 : Int32} {res : Int64} (hf : f_X7_commonDivisor_9w M v4 v6 v8 = some res) (ko : (fun z => mm_q g 0 0 (some (mm_j z)) M) res) : mm_X g 0 0 M 9 [(4, mm_j v4), (6, mm_j v6), (8, mm_i v8)] [] :=
  mm_w_W (body := fun x => f_X7_commonDivisor_9 M x.1 x.2.1 x.2.2) (Wh := h_X7_commonDivisor_9 g M) (ok := (fun z => mm_q g 0 0 (some (mm_j z)) M)) (x := (v4, v6, v8)) (fun x r hb ho => w_X7_commonDivisor_9 C hb ho) hf ko
noncomputable def f_X7_commonDivisor_0 (M : mm_M) (v0 : Int64) (v2 : Int64) : Option (Int64) :=
  f_X7_commonDivisor_9w M v0 v2 0
set_option maxRecDepth 20000 in
theorem w_X7_commonDivisor_0 {g : mm_c} (C : mm_ok g cX7_commonDivisor "LessonCards$LevelTest" (some .long) "commonDivisor" 11 0 0 0 0) {M : mm_M} {v0 : Int64} {v2 : Int64} {res : Int64} (hf : f_X7_commonDivisor_0 M v0 v2 = some res) (ko : (fun z => mm_q g 0 0 (some (mm_j z)) M) res) : mm_X g 0 0 M 0 [(0, mm_j v0), (2, mm_j v2)] [] := by
  unfold f_X7_commonDivisor_0 at hf
  refine xr_lload_n 1 0 C dX7_commonDivisor_0 rfl rfl rfl ?_
  refine xr_lstore 3 C dX7_commonDivisor_1 (by decide) rfl [(4, mm_j v0), (0, mm_j v0), (2, mm_j v2)] rfl ?_
  refine xr_lload_n 4 2 C dX7_commonDivisor_3 rfl rfl rfl ?_
  refine xr_lstore 6 C dX7_commonDivisor_4 (by decide) rfl [(6, mm_j v2), (4, mm_j v0), (0, mm_j v0), (2, mm_j v2)] rfl ?_
  refine xr_iconst 7 C (v := 0) dX7_commonDivisor_6 (by decide) rfl ?_
  refine xr_istore 9 C dX7_commonDivisor_7 (by decide) rfl [(8, mm_i 0), (6, mm_j v2), (4, mm_j v0), (0, mm_j v0), (2, mm_j v2)] rfl ?_
  refine xr_sub [2, 1, 0] (lv2 := [(4, mm_j v0), (6, mm_j v2), (8, mm_i 0)]) rfl ?_
  exact l_X7_commonDivisor_9 C hf ko
noncomputable def f_X7_commonDivisor (M : mm_M) (v0 : Int64) (v2 : Int64) : Option (Int64) := f_X7_commonDivisor_0 M v0 v2
theorem c_X7_commonDivisor (l : Launch) (G : va_G) (cy : Nat → ClassId) {M : mm_M} {v0 : Int64} {v2 : Int64} {r : Int64} (hf : f_X7_commonDivisor M v0 v2 = some r) : mm_Met l yX7_commonDivisor cX7_commonDivisor 11 (some .long) 0 0 0 0 G cy [mm_j v0, mm_j v2] M (some (mm_j r)) M :=
  mm_enter (by decide) (Nat.le_of_ble_eq_true rfl) (fun p e R s m args below meth c Q C hq => xr_sub [0, 1] (lv2 := [(0, mm_j v0), (2, mm_j v2)]) rfl (w_X7_commonDivisor_0 C hf hq))
def h_X7_hear_64 (g : mm_c) (v0 : Option Nat) (v3 : Int64) : (mm_M × Int32) → Prop := fun x => mm_X g 0 0 x.1 64 [(0, mm_r v0), (3, mm_j v3), (5, mm_i x.2)] []
def h_X7_hear_5 (g : mm_c) (v0 : Option Nat) (v1 : Int32) (v2 : Int32) : (mm_M × Int64 × Int32) → Prop := fun x => mm_X g 0 0 x.1 5 [(0, mm_r v0), (1, mm_i v1), (2, mm_i v2), (3, mm_j x.2.1), (5, mm_i x.2.2)] []
noncomputable def f_X7_hear_24 (M : mm_M) (v0 : Option Nat) (v1 : Int32) (v2 : Int32) (v3 : Int64) (v5 : Int32) : Option ((mm_M × Int64 × Int32) ⊕ (mm_M)) :=
  (mm_fR M v0 8 0).bind fun x25 =>
  (mm_aL M x25 v5).bind fun x31 =>
  (mm_rc M v0 8).bind fun u37 =>
  (f_X7_factorOf M v0 v5 v1 v2).bind fun x37 =>
  (mm_tL M x25 v5 (x31 * (x37.toInt64))).bind fun M42 =>
  (mm_fR M42 v0 8 0).bind fun x44 =>
  (mm_aL M42 x44 v5).bind fun x49 =>
  (f_X7_commonDivisor M42 x49 v3).bind fun x51 =>
  some (.inl (M42, x51, (v5 + 1)))
set_option maxRecDepth 20000 in
theorem w_X7_hear_24 {g : mm_c} (C : mm_ok g cX7_hear "LessonCards$LevelTest" none "hear" 6 2 50 0 0) {M : mm_M} {v0 : Option Nat} {v1 : Int32} {v2 : Int32} {v3 : Int64} {v5 : Int32} {res : (mm_M × Int64 × Int32) ⊕ (mm_M)} (hf : f_X7_hear_24 M v0 v1 v2 v3 v5 = some res) (ko : (mm_o (h_X7_hear_5 g v0 v1 v2) (fun z => mm_q g 0 0 none z)) res) : mm_X g 0 0 M 24 [(0, mm_r v0), (1, mm_i v1), (2, mm_i v2), (3, mm_j v3), (5, mm_i v5)] [] := by
  unfold f_X7_hear_24 at hf
  refine xr_aload_n 25 0 C dX7_hear_24 rfl rfl rfl ?_
  obtain ⟨x25, h25, hf⟩ := mm_bd_e hf
  refine xr_getR 28 C cf_X7_9 rfl h25 dX7_hear_25 rfl ?_
  refine xr_iload 30 4 C dX7_hear_28 rfl rfl ?_
  refine xr_dup2_11 31 C dX7_hear_30 rfl rfl rfl ?_
  obtain ⟨x31, h31, hf⟩ := mm_bd_e hf
  refine xr_aldL 32 C h31 dX7_hear_31 rfl ?_
  refine xr_aload_n 33 0 C dX7_hear_32 rfl rfl rfl ?_
  refine xr_iload 35 4 C dX7_hear_33 rfl rfl ?_
  refine xr_iload_n 36 1 C dX7_hear_35 rfl rfl rfl ?_
  refine xr_iload_n 37 2 C dX7_hear_36 rfl rfl rfl ?_
  obtain ⟨u37, g37, hf⟩ := mm_bd_e hf
  obtain ⟨x37, h37, hf⟩ := mm_bd_e hf
  refine xr_callV 40 C [mm_i v5, mm_i v1, mm_i v2] cm_X7_44 (fun l G cy => c_X7_factorOf l G cy h37) g37 rfl rfl ⟨⟨Nat.le_of_ble_eq_true rfl, Nat.le_of_ble_eq_true rfl⟩, (Nat.le_of_ble_eq_true rfl), (Nat.le_of_ble_eq_true rfl)⟩ (Nat.le_of_ble_eq_true rfl) dX7_hear_37 rfl ?_
  refine xr_i2l 41 C dX7_hear_40 rfl ?_
  refine xr_lmul 42 C dX7_hear_41 rfl ?_
  obtain ⟨M42, h42, hf⟩ := mm_bd_e hf
  refine xr_astL 43 C h42 dX7_hear_42 rfl ?_
  refine xr_aload_n 44 0 C dX7_hear_43 rfl rfl rfl ?_
  obtain ⟨x44, h44, hf⟩ := mm_bd_e hf
  refine xr_getR 47 C cf_X7_9 rfl h44 dX7_hear_44 rfl ?_
  refine xr_iload 49 4 C dX7_hear_47 rfl rfl ?_
  obtain ⟨x49, h49, hf⟩ := mm_bd_e hf
  refine xr_aldL 50 C h49 dX7_hear_49 rfl ?_
  refine xr_lload_n 51 3 C dX7_hear_50 rfl rfl rfl ?_
  obtain ⟨x51, h51, hf⟩ := mm_bd_e hf
  refine xr_callS 54 C [mm_j x49, mm_j v3] cm_X7_52 (fun l G cy => c_X7_commonDivisor l G cy h51) rfl rfl ⟨⟨Nat.le_of_ble_eq_true rfl, Nat.le_of_ble_eq_true rfl⟩, (Nat.le_of_ble_eq_true rfl), (Nat.le_of_ble_eq_true rfl)⟩ (Nat.le_of_ble_eq_true rfl) dX7_hear_51 rfl ?_
  refine xr_lstore_n 55 C dX7_hear_54 rfl (by decide) rfl [(3, mm_j x51), (0, mm_r v0), (1, mm_i v1), (2, mm_i v2), (5, mm_i v5)] rfl ?_
  refine xr_iinc 58 4 C dX7_hear_55 rfl (by decide) (v := 1) (by decide) rfl [(5, mm_i (v5 + 1)), (3, mm_j x51), (0, mm_r v0), (1, mm_i v1), (2, mm_i v2)] rfl ?_
  refine xr_goto 5 C dX7_hear_58 (by decide) ?_
  refine xr_sub [2, 3, 4, 1, 0] (lv2 := [(0, mm_r v0), (1, mm_i v1), (2, mm_i v2), (3, mm_j x51), (5, mm_i (v5 + 1))]) rfl ?_
  obtain rfl := Option.some.inj hf
  exact ko
noncomputable def f_X7_hear_100 (M : mm_M) (v0 : Option Nat) (v3 : Int64) (v5 : Int32) : Option ((mm_M × Int32) ⊕ (mm_M)) :=
  some (.inl (M, (v5 + 1)))
set_option maxRecDepth 20000 in
theorem w_X7_hear_100 {g : mm_c} (C : mm_ok g cX7_hear "LessonCards$LevelTest" none "hear" 6 2 50 0 0) {M : mm_M} {v0 : Option Nat} {v3 : Int64} {v5 : Int32} {res : (mm_M × Int32) ⊕ (mm_M)} (hf : f_X7_hear_100 M v0 v3 v5 = some res) (ko : (mm_o (h_X7_hear_64 g v0 v3) (fun z => mm_q g 0 0 none z)) res) : mm_X g 0 0 M 100 [(0, mm_r v0), (3, mm_j v3), (5, mm_i v5)] [] := by
  unfold f_X7_hear_100 at hf
  refine xr_iinc 103 2 C dX7_hear_100 rfl (by decide) (v := 1) (by decide) rfl [(5, mm_i (v5 + 1)), (0, mm_r v0), (3, mm_j v3)] rfl ?_
  refine xr_goto 64 C dX7_hear_103 (by decide) ?_
  refine xr_sub [1, 2, 0] (lv2 := [(0, mm_r v0), (3, mm_j v3), (5, mm_i (v5 + 1))]) rfl ?_
  obtain rfl := Option.some.inj hf
  exact ko
noncomputable def f_X7_hear_89 (M : mm_M) (v0 : Option Nat) (v3 : Int64) (v5 : Int32) : Option ((mm_M × Int32) ⊕ (mm_M)) :=
  (mm_fR M v0 8 0).bind fun x90 =>
  (mm_aL M x90 v5).bind fun x96 =>
  (mm_dL x96 v3).bind fun x98 =>
  (mm_tL M x90 v5 x98).bind fun M99 =>
  f_X7_hear_100 M99 v0 v3 v5
set_option maxRecDepth 20000 in
theorem w_X7_hear_89 {g : mm_c} (C : mm_ok g cX7_hear "LessonCards$LevelTest" none "hear" 6 2 50 0 0) {M : mm_M} {v0 : Option Nat} {v3 : Int64} {v5 : Int32} {res : (mm_M × Int32) ⊕ (mm_M)} (hf : f_X7_hear_89 M v0 v3 v5 = some res) (ko : (mm_o (h_X7_hear_64 g v0 v3) (fun z => mm_q g 0 0 none z)) res) : mm_X g 0 0 M 89 [(0, mm_r v0), (3, mm_j v3), (5, mm_i v5)] [] := by
  unfold f_X7_hear_89 at hf
  refine xr_aload_n 90 0 C dX7_hear_89 rfl rfl rfl ?_
  obtain ⟨x90, h90, hf⟩ := mm_bd_e hf
  refine xr_getR 93 C cf_X7_9 rfl h90 dX7_hear_90 rfl ?_
  refine xr_iload 95 2 C dX7_hear_93 rfl rfl ?_
  refine xr_dup2_11 96 C dX7_hear_95 rfl rfl rfl ?_
  obtain ⟨x96, h96, hf⟩ := mm_bd_e hf
  refine xr_aldL 97 C h96 dX7_hear_96 rfl ?_
  refine xr_lload_n 98 1 C dX7_hear_97 rfl rfl rfl ?_
  obtain ⟨x98, h98, hf⟩ := mm_bd_e hf
  refine xr_ldivv 99 C h98 dX7_hear_98 rfl ?_
  obtain ⟨M99, h99, hf⟩ := mm_bd_e hf
  refine xr_astL 100 C h99 dX7_hear_99 rfl ?_
  exact w_X7_hear_100 C hf ko
noncomputable def f_X7_hear_83 (M : mm_M) (v0 : Option Nat) (v3 : Int64) (v5 : Int32) : Option ((mm_M × Int32) ⊕ (mm_M)) :=
  if (lg_cmp v3 1) ≤ 0 then f_X7_hear_100 M v0 v3 v5 else f_X7_hear_89 M v0 v3 v5
set_option maxRecDepth 20000 in
theorem w_X7_hear_83 {g : mm_c} (C : mm_ok g cX7_hear "LessonCards$LevelTest" none "hear" 6 2 50 0 0) {M : mm_M} {v0 : Option Nat} {v3 : Int64} {v5 : Int32} {res : (mm_M × Int32) ⊕ (mm_M)} (hf : f_X7_hear_83 M v0 v3 v5 = some res) (ko : (mm_o (h_X7_hear_64 g v0 v3) (fun z => mm_q g 0 0 none z)) res) : mm_X g 0 0 M 83 [(0, mm_r v0), (3, mm_j v3), (5, mm_i v5)] [] := by
  unfold f_X7_hear_83 at hf
  refine xr_lload_n 84 1 C dX7_hear_83 rfl rfl rfl ?_
  refine xr_lconst 85 C (v := 1) dX7_hear_84 (by decide) rfl ?_
  refine xr_lcmp 86 C dX7_hear_85 rfl ?_
  refine xr_if_le 100 89 C dX7_hear_86 (by decide) rfl (fun hc => ?_) (fun hc => ?_)
  · replace hf := (if_pos hc).symm.trans hf
    exact w_X7_hear_100 C hf ko
  · replace hf := (if_neg hc).symm.trans hf
    exact w_X7_hear_89 C hf ko
noncomputable def f_X7_hear_138 (M : mm_M) (s0 : Option Nat) (s1 : Int32) : Option (mm_M) :=
  (mm_pZ M s0 8 5 s1).bind fun M138 =>
  some M138
set_option maxRecDepth 20000 in
theorem w_X7_hear_138 {g : mm_c} (C : mm_ok g cX7_hear "LessonCards$LevelTest" none "hear" 6 2 50 0 0) {M : mm_M} {s0 : Option Nat} {s1 : Int32} {res : mm_M} (hf : f_X7_hear_138 M s0 s1 = some res) (ko : (fun z => mm_q g 0 0 none z) res) : mm_X g 0 0 M 138 [] [mm_i s1, mm_r s0] := by
  unfold f_X7_hear_138 at hf
  obtain ⟨M138, h138, hf⟩ := mm_bd_e hf
  refine xr_putZ 141 C cf_X7_15 (fun h => by cases h) h138 dX7_hear_138 rfl ?_
  obtain rfl := Option.some.inj hf
  exact xr_vret C ko ⟨(Nat.le_of_ble_eq_true rfl), (Nat.le_of_ble_eq_true rfl)⟩ dX7_hear_141
noncomputable def f_X7_hear_133 (M : mm_M) (s0 : Option Nat) : Option (mm_M) :=
  f_X7_hear_138 M s0 1
set_option maxRecDepth 20000 in
theorem w_X7_hear_133 {g : mm_c} (C : mm_ok g cX7_hear "LessonCards$LevelTest" none "hear" 6 2 50 0 0) {M : mm_M} {s0 : Option Nat} {res : mm_M} (hf : f_X7_hear_133 M s0 = some res) (ko : (fun z => mm_q g 0 0 none z) res) : mm_X g 0 0 M 133 [] [mm_r s0] := by
  unfold f_X7_hear_133 at hf
  refine xr_iconst 134 C (v := 1) dX7_hear_133 (by decide) rfl ?_
  refine xr_goto 138 C dX7_hear_134 (by decide) ?_
  exact w_X7_hear_138 C hf ko
noncomputable def f_X7_hear_137 (M : mm_M) (s0 : Option Nat) : Option (mm_M) :=
  f_X7_hear_138 M s0 0
set_option maxRecDepth 20000 in
theorem w_X7_hear_137 {g : mm_c} (C : mm_ok g cX7_hear "LessonCards$LevelTest" none "hear" 6 2 50 0 0) {M : mm_M} {s0 : Option Nat} {res : mm_M} (hf : f_X7_hear_137 M s0 = some res) (ko : (fun z => mm_q g 0 0 none z) res) : mm_X g 0 0 M 137 [] [mm_r s0] := by
  unfold f_X7_hear_137 at hf
  refine xr_iconst 138 C (v := 0) dX7_hear_137 (by decide) rfl ?_
  exact w_X7_hear_138 C hf ko
noncomputable def f_X7_hear_126 (M : mm_M) (v0 : Option Nat) (s0 : Option Nat) : Option (mm_M) :=
  (mm_rc M v0 8).bind fun u127 =>
  (f_X7_isClear M v0).bind fun x127 =>
  if x127 = 0 then f_X7_hear_137 M s0 else f_X7_hear_133 M s0
set_option maxRecDepth 20000 in
theorem w_X7_hear_126 {g : mm_c} (C : mm_ok g cX7_hear "LessonCards$LevelTest" none "hear" 6 2 50 0 0) {M : mm_M} {v0 : Option Nat} {s0 : Option Nat} {res : mm_M} (hf : f_X7_hear_126 M v0 s0 = some res) (ko : (fun z => mm_q g 0 0 none z) res) : mm_X g 0 0 M 126 [(0, mm_r v0)] [mm_r s0] := by
  unfold f_X7_hear_126 at hf
  refine xr_aload_n 127 0 C dX7_hear_126 rfl rfl rfl ?_
  obtain ⟨u127, g127, hf⟩ := mm_bd_e hf
  obtain ⟨x127, h127, hf⟩ := mm_bd_e hf
  refine xr_callV 130 C [] cm_X7_55 (fun l G cy => c_X7_isClear l G cy h127) g127 rfl rfl ⟨⟨Nat.le_of_ble_eq_true rfl, Nat.le_of_ble_eq_true rfl⟩, (Nat.le_of_ble_eq_true rfl), (Nat.le_of_ble_eq_true rfl)⟩ (Nat.le_of_ble_eq_true rfl) dX7_hear_127 rfl ?_
  refine xr_if_eq 137 133 C dX7_hear_130 (by decide) rfl (fun hc => ?_) (fun hc => ?_)
  · replace hf := (if_pos hc).symm.trans hf
    refine xr_sub [] (lv2 := []) rfl ?_
    exact w_X7_hear_137 C hf ko
  · replace hf := (if_neg hc).symm.trans hf
    refine xr_sub [] (lv2 := []) rfl ?_
    exact w_X7_hear_133 C hf ko
noncomputable def f_X7_hear_106 (M : mm_M) (v0 : Option Nat) : Option (mm_M) :=
  (mm_fI M v0 8 4).bind fun x108 =>
  (mm_pI M v0 8 4 (x108 + 1)).bind fun M113 =>
  (mm_fI M113 v0 8 4).bind fun x118 =>
  if 6 ≤ x118 then f_X7_hear_133 M113 v0 else f_X7_hear_126 M113 v0 v0
set_option maxRecDepth 20000 in
theorem w_X7_hear_106 {g : mm_c} (C : mm_ok g cX7_hear "LessonCards$LevelTest" none "hear" 6 2 50 0 0) {M : mm_M} {v0 : Option Nat} {res : mm_M} (hf : f_X7_hear_106 M v0 = some res) (ko : (fun z => mm_q g 0 0 none z) res) : mm_X g 0 0 M 106 [(0, mm_r v0)] [] := by
  unfold f_X7_hear_106 at hf
  refine xr_aload_n 107 0 C dX7_hear_106 rfl rfl rfl ?_
  refine xr_dup 108 C dX7_hear_107 rfl rfl ?_
  obtain ⟨x108, h108, hf⟩ := mm_bd_e hf
  refine xr_getI 111 C cf_X7_35 rfl h108 dX7_hear_108 rfl ?_
  refine xr_iconst 112 C (v := 1) dX7_hear_111 (by decide) rfl ?_
  refine xr_iadd 113 C dX7_hear_112 rfl ?_
  obtain ⟨M113, h113, hf⟩ := mm_bd_e hf
  refine xr_putI 116 C cf_X7_35 (fun h => by cases h) h113 dX7_hear_113 rfl ?_
  refine xr_aload_n 117 0 C dX7_hear_116 rfl rfl rfl ?_
  refine xr_aload_n 118 0 C dX7_hear_117 rfl rfl rfl ?_
  obtain ⟨x118, h118, hf⟩ := mm_bd_e hf
  refine xr_getI 121 C cf_X7_35 rfl h118 dX7_hear_118 rfl ?_
  refine xr_bipush 123 C (v := 6) dX7_hear_121 (by decide) rfl ?_
  refine xr_icmp_ge 133 126 C dX7_hear_123 (by decide) rfl (fun hc => ?_) (fun hc => ?_)
  · replace hf := (if_pos hc).symm.trans hf
    refine xr_sub [] (lv2 := []) rfl ?_
    exact w_X7_hear_133 C hf ko
  · replace hf := (if_neg hc).symm.trans hf
    exact w_X7_hear_126 C hf ko
noncomputable def f_X7_hear_73 (M : mm_M) (v0 : Option Nat) (v3 : Int64) (v5 : Int32) : Option ((mm_M × Int32) ⊕ (mm_M)) :=
  (mm_fR M v0 8 0).bind fun x76 =>
  (mm_ln M x76).bind fun x79 =>
  if x79 ≤ v5 then mm_mp (f_X7_hear_106 M v0) else f_X7_hear_83 M v0 v3 v5
set_option maxRecDepth 20000 in
theorem w_X7_hear_73 {g : mm_c} (C : mm_ok g cX7_hear "LessonCards$LevelTest" none "hear" 6 2 50 0 0) {M : mm_M} {v0 : Option Nat} {v3 : Int64} {v5 : Int32} {res : (mm_M × Int32) ⊕ (mm_M)} (hf : f_X7_hear_73 M v0 v3 v5 = some res) (ko : (mm_o (h_X7_hear_64 g v0 v3) (fun z => mm_q g 0 0 none z)) res) : mm_X g 0 0 M 73 [(0, mm_r v0), (3, mm_j v3), (5, mm_i v5)] [] := by
  unfold f_X7_hear_73 at hf
  refine xr_iload 75 2 C dX7_hear_73 rfl rfl ?_
  refine xr_aload_n 76 0 C dX7_hear_75 rfl rfl rfl ?_
  obtain ⟨x76, h76, hf⟩ := mm_bd_e hf
  refine xr_getR 79 C cf_X7_9 rfl h76 dX7_hear_76 rfl ?_
  obtain ⟨x79, h79, hf⟩ := mm_bd_e hf
  refine xr_alen 80 C h79 dX7_hear_79 rfl ?_
  refine xr_icmp_ge 106 83 C dX7_hear_80 (by decide) rfl (fun hc => ?_) (fun hc => ?_)
  · replace hf := (if_pos hc).symm.trans hf
    refine xr_sub [0] (lv2 := [(0, mm_r v0)]) rfl ?_
    obtain ⟨z, hf2, rfl⟩ := mm_mp_e hf
    clear hf
    have hf := hf2
    clear hf2
    exact w_X7_hear_106 C hf ko
  · replace hf := (if_neg hc).symm.trans hf
    exact w_X7_hear_83 C hf ko
noncomputable def f_X7_hear_64 (M : mm_M) (v0 : Option Nat) (v3 : Int64) (v5 : Int32) : Option ((mm_M × Int32) ⊕ (mm_M)) :=
  (mm_fI M v0 8 1).bind fun x67 =>
  if x67 ≤ v5 then mm_mp (f_X7_hear_106 M v0) else f_X7_hear_73 M v0 v3 v5
set_option maxRecDepth 20000 in
theorem w_X7_hear_64 {g : mm_c} (C : mm_ok g cX7_hear "LessonCards$LevelTest" none "hear" 6 2 50 0 0) {M : mm_M} {v0 : Option Nat} {v3 : Int64} {v5 : Int32} {res : (mm_M × Int32) ⊕ (mm_M)} (hf : f_X7_hear_64 M v0 v3 v5 = some res) (ko : (mm_o (h_X7_hear_64 g v0 v3) (fun z => mm_q g 0 0 none z)) res) : mm_X g 0 0 M 64 [(0, mm_r v0), (3, mm_j v3), (5, mm_i v5)] [] := by
  unfold f_X7_hear_64 at hf
  refine xr_iload 66 2 C dX7_hear_64 rfl rfl ?_
  refine xr_aload_n 67 0 C dX7_hear_66 rfl rfl rfl ?_
  obtain ⟨x67, h67, hf⟩ := mm_bd_e hf
  refine xr_getI 70 C cf_X7_25 rfl h67 dX7_hear_67 rfl ?_
  refine xr_icmp_ge 106 73 C dX7_hear_70 (by decide) rfl (fun hc => ?_) (fun hc => ?_)
  · replace hf := (if_pos hc).symm.trans hf
    refine xr_sub [0] (lv2 := [(0, mm_r v0)]) rfl ?_
    obtain ⟨z, hf2, rfl⟩ := mm_mp_e hf
    clear hf
    have hf := hf2
    clear hf2
    exact w_X7_hear_106 C hf ko
  · replace hf := (if_neg hc).symm.trans hf
    exact w_X7_hear_73 C hf ko
noncomputable def f_X7_hear_64w (M : mm_M) (v0 : Option Nat) (v3 : Int64) (v5 : Int32) : Option (mm_M) := mm_w (fun x => f_X7_hear_64 x.1 v0 v3 x.2) (M, v5)
theorem l_X7_hear_64 {g : mm_c} (C : mm_ok g cX7_hear "LessonCards$LevelTest" none "hear" 6 2 50 0 0) {M : mm_M} {v0 : Option Nat} {v3 : Int64} {v5 : Int32} {res : mm_M} (hf : f_X7_hear_64w M v0 v3 v5 = some res) (ko : (fun z => mm_q g 0 0 none z) res) : mm_X g 0 0 M 64 [(0, mm_r v0), (3, mm_j v3), (5, mm_i v5)] [] :=
  mm_w_W (body := fun x => f_X7_hear_64 x.1 v0 v3 x.2) (Wh := h_X7_hear_64 g v0 v3) (ok := (fun z => mm_q g 0 0 none z)) (x := (M, v5)) (fun x r hb ho => w_X7_hear_64 C hb ho) hf ko
noncomputable def f_X7_hear_61 (M : mm_M) (v0 : Option Nat) (v3 : Int64) : Option (mm_M) :=
  f_X7_hear_64w M v0 v3 0
set_option maxRecDepth 20000 in
theorem w_X7_hear_61 {g : mm_c} (C : mm_ok g cX7_hear "LessonCards$LevelTest" none "hear" 6 2 50 0 0) {M : mm_M} {v0 : Option Nat} {v3 : Int64} {res : mm_M} (hf : f_X7_hear_61 M v0 v3 = some res) (ko : (fun z => mm_q g 0 0 none z) res) : mm_X g 0 0 M 61 [(0, mm_r v0), (3, mm_j v3)] [] := by
  unfold f_X7_hear_61 at hf
  refine xr_iconst 62 C (v := 0) dX7_hear_61 (by decide) rfl ?_
  refine xr_istore 64 C dX7_hear_62 (by decide) rfl [(5, mm_i 0), (0, mm_r v0), (3, mm_j v3)] rfl ?_
  refine xr_sub [1, 2, 0] (lv2 := [(0, mm_r v0), (3, mm_j v3), (5, mm_i 0)]) rfl ?_
  exact l_X7_hear_64 C hf ko
noncomputable def f_X7_hear_14 (M : mm_M) (v0 : Option Nat) (v1 : Int32) (v2 : Int32) (v3 : Int64) (v5 : Int32) : Option ((mm_M × Int64 × Int32) ⊕ (mm_M)) :=
  (mm_fR M v0 8 0).bind fun x17 =>
  (mm_ln M x17).bind fun x20 =>
  if x20 ≤ v5 then mm_mp (f_X7_hear_61 M v0 v3) else f_X7_hear_24 M v0 v1 v2 v3 v5
set_option maxRecDepth 20000 in
theorem w_X7_hear_14 {g : mm_c} (C : mm_ok g cX7_hear "LessonCards$LevelTest" none "hear" 6 2 50 0 0) {M : mm_M} {v0 : Option Nat} {v1 : Int32} {v2 : Int32} {v3 : Int64} {v5 : Int32} {res : (mm_M × Int64 × Int32) ⊕ (mm_M)} (hf : f_X7_hear_14 M v0 v1 v2 v3 v5 = some res) (ko : (mm_o (h_X7_hear_5 g v0 v1 v2) (fun z => mm_q g 0 0 none z)) res) : mm_X g 0 0 M 14 [(0, mm_r v0), (1, mm_i v1), (2, mm_i v2), (3, mm_j v3), (5, mm_i v5)] [] := by
  unfold f_X7_hear_14 at hf
  refine xr_iload 16 4 C dX7_hear_14 rfl rfl ?_
  refine xr_aload_n 17 0 C dX7_hear_16 rfl rfl rfl ?_
  obtain ⟨x17, h17, hf⟩ := mm_bd_e hf
  refine xr_getR 20 C cf_X7_9 rfl h17 dX7_hear_17 rfl ?_
  obtain ⟨x20, h20, hf⟩ := mm_bd_e hf
  refine xr_alen 21 C h20 dX7_hear_20 rfl ?_
  refine xr_icmp_ge 61 24 C dX7_hear_21 (by decide) rfl (fun hc => ?_) (fun hc => ?_)
  · replace hf := (if_pos hc).symm.trans hf
    refine xr_sub [0, 3] (lv2 := [(0, mm_r v0), (3, mm_j v3)]) rfl ?_
    obtain ⟨z, hf2, rfl⟩ := mm_mp_e hf
    clear hf
    have hf := hf2
    clear hf2
    exact w_X7_hear_61 C hf ko
  · replace hf := (if_neg hc).symm.trans hf
    exact w_X7_hear_24 C hf ko
noncomputable def f_X7_hear_5 (M : mm_M) (v0 : Option Nat) (v1 : Int32) (v2 : Int32) (v3 : Int64) (v5 : Int32) : Option ((mm_M × Int64 × Int32) ⊕ (mm_M)) :=
  (mm_fI M v0 8 1).bind fun x8 =>
  if x8 ≤ v5 then mm_mp (f_X7_hear_61 M v0 v3) else f_X7_hear_14 M v0 v1 v2 v3 v5
set_option maxRecDepth 20000 in
theorem w_X7_hear_5 {g : mm_c} (C : mm_ok g cX7_hear "LessonCards$LevelTest" none "hear" 6 2 50 0 0) {M : mm_M} {v0 : Option Nat} {v1 : Int32} {v2 : Int32} {v3 : Int64} {v5 : Int32} {res : (mm_M × Int64 × Int32) ⊕ (mm_M)} (hf : f_X7_hear_5 M v0 v1 v2 v3 v5 = some res) (ko : (mm_o (h_X7_hear_5 g v0 v1 v2) (fun z => mm_q g 0 0 none z)) res) : mm_X g 0 0 M 5 [(0, mm_r v0), (1, mm_i v1), (2, mm_i v2), (3, mm_j v3), (5, mm_i v5)] [] := by
  unfold f_X7_hear_5 at hf
  refine xr_iload 7 4 C dX7_hear_5 rfl rfl ?_
  refine xr_aload_n 8 0 C dX7_hear_7 rfl rfl rfl ?_
  obtain ⟨x8, h8, hf⟩ := mm_bd_e hf
  refine xr_getI 11 C cf_X7_25 rfl h8 dX7_hear_8 rfl ?_
  refine xr_icmp_ge 61 14 C dX7_hear_11 (by decide) rfl (fun hc => ?_) (fun hc => ?_)
  · replace hf := (if_pos hc).symm.trans hf
    refine xr_sub [0, 3] (lv2 := [(0, mm_r v0), (3, mm_j v3)]) rfl ?_
    obtain ⟨z, hf2, rfl⟩ := mm_mp_e hf
    clear hf
    have hf := hf2
    clear hf2
    exact w_X7_hear_61 C hf ko
  · replace hf := (if_neg hc).symm.trans hf
    exact w_X7_hear_14 C hf ko
noncomputable def f_X7_hear_5w (M : mm_M) (v0 : Option Nat) (v1 : Int32) (v2 : Int32) (v3 : Int64) (v5 : Int32) : Option (mm_M) := mm_w (fun x => f_X7_hear_5 x.1 v0 v1 v2 x.2.1 x.2.2) (M, v3, v5)
theorem l_X7_hear_5 {g : mm_c} (C : mm_ok g cX7_hear "LessonCards$LevelTest" none "hear" 6 2 50 0 0) {M : mm_M} {v0 : Option Nat} {v1 : Int32} {v2 : Int32} {v3 : Int64} {v5 : Int32} {res : mm_M} (hf : f_X7_hear_5w M v0 v1 v2 v3 v5 = some res) (ko : (fun z => mm_q g 0 0 none z) res) : mm_X g 0 0 M 5 [(0, mm_r v0), (1, mm_i v1), (2, mm_i v2), (3, mm_j v3), (5, mm_i v5)] [] :=
  mm_w_W (body := fun x => f_X7_hear_5 x.1 v0 v1 v2 x.2.1 x.2.2) (Wh := h_X7_hear_5 g v0 v1 v2) (ok := (fun z => mm_q g 0 0 none z)) (x := (M, v3, v5)) (fun x r hb ho => w_X7_hear_5 C hb ho) hf ko
noncomputable def f_X7_hear_0 (M : mm_M) (v0 : Option Nat) (v1 : Int32) (v2 : Int32) : Option (mm_M) :=
  f_X7_hear_5w M v0 v1 v2 0 0
set_option maxRecDepth 20000 in
theorem w_X7_hear_0 {g : mm_c} (C : mm_ok g cX7_hear "LessonCards$LevelTest" none "hear" 6 2 50 0 0) {M : mm_M} {v0 : Option Nat} {v1 : Int32} {v2 : Int32} {res : mm_M} (hf : f_X7_hear_0 M v0 v1 v2 = some res) (ko : (fun z => mm_q g 0 0 none z) res) : mm_X g 0 0 M 0 [(0, mm_r v0), (1, mm_i v1), (2, mm_i v2)] [] := by
  unfold f_X7_hear_0 at hf
  refine xr_lconst 1 C (v := 0) dX7_hear_0 (by decide) rfl ?_
  refine xr_lstore_n 2 C dX7_hear_1 rfl (by decide) rfl [(3, mm_j 0), (0, mm_r v0), (1, mm_i v1), (2, mm_i v2)] rfl ?_
  refine xr_iconst 3 C (v := 0) dX7_hear_2 (by decide) rfl ?_
  refine xr_istore 5 C dX7_hear_3 (by decide) rfl [(5, mm_i 0), (3, mm_j 0), (0, mm_r v0), (1, mm_i v1), (2, mm_i v2)] rfl ?_
  refine xr_sub [2, 3, 4, 1, 0] (lv2 := [(0, mm_r v0), (1, mm_i v1), (2, mm_i v2), (3, mm_j 0), (5, mm_i 0)]) rfl ?_
  exact l_X7_hear_5 C hf ko
noncomputable def f_X7_hear (M : mm_M) (v0 : Option Nat) (v1 : Int32) (v2 : Int32) : Option (mm_M) := f_X7_hear_0 M v0 v1 v2
theorem c_X7_hear (l : Launch) (G : va_G) (cy : Nat → ClassId) {M : mm_M} {v0 : Option Nat} {v1 : Int32} {v2 : Int32} {M1 : mm_M} (hf : f_X7_hear M v0 v1 v2 = some M1) : mm_Met l yX7_hear cX7_hear 6 none 2 50 0 0 G cy [mm_r v0, mm_i v1, mm_i v2] M none M1 :=
  mm_enter (by decide) (Nat.le_of_ble_eq_true rfl) (fun p e R s m args below meth c Q C hq => xr_sub [0, 1, 2] (lv2 := [(0, mm_r v0), (1, mm_i v1), (2, mm_i v2)]) rfl (w_X7_hear_0 C hf hq))
noncomputable def f_X8_copy_0 (M : mm_M) (v0 : Option Nat) : Option (Option Nat × mm_M) :=
  mm_le (mm_nw M (9, 0)) fun M0 =>
  (f_X8_init M0 (mm_n M)).bind fun M4 =>
  (mm_rc M4 (some (mm_n M)) 9).bind fun u10 =>
  (f_X8_become M4 (some (mm_n M)) v0).bind fun M10 =>
  some ((some (mm_n M)), M10)
set_option maxRecDepth 20000 in
theorem w_X8_copy_0 {g : mm_c} (C : mm_ok g cX8_copy "LessonCards$Memory" (some (.object "LessonCards$Memory")) "copy" 2 2 40 1 7) {M : mm_M} {v0 : Option Nat} {res : Option Nat × mm_M} (hf : f_X8_copy_0 M v0 = some res) (ko : (fun z => mm_q g 1 7 (some (mm_r z.1)) z.2) res) : mm_X g 0 0 M 0 [(0, mm_r v0)] [] := by
  unfold f_X8_copy_0 at hf
  obtain ⟨M0, h0, hf⟩ := mm_le_e hf
  refine xr_new 3 C (ci := 9) (Cn := RX8) (T := TX8) (N := 7) (ty := tyX8) rfl (by decide) in_X8 tyX8_ok nf_X8 wd_578 wd_267 wd_57 dX8_copy_0 ⟨(Nat.le_of_ble_eq_true rfl), (Nat.le_of_ble_eq_true rfl)⟩ rfl h0 ?_
  refine xr_dup 4 C dX8_copy_3 rfl rfl ?_
  obtain ⟨M4, h4, hf⟩ := mm_bd_e hf
  refine xr_callI 7 C [] cm_X8_18 (fun l G cy => c_X8_init l G cy h4) rfl rfl ⟨⟨Nat.le_of_ble_eq_true rfl, Nat.le_of_ble_eq_true rfl⟩, (Nat.le_of_ble_eq_true rfl), (Nat.le_of_ble_eq_true rfl)⟩ (Nat.le_of_ble_eq_true rfl) dX8_copy_4 rfl ?_
  refine xr_astore_n 8 C dX8_copy_7 rfl (by decide) rfl [(1, mm_r (some (mm_n M))), (0, mm_r v0)] rfl ?_
  refine xr_aload_n 9 0 C dX8_copy_8 rfl rfl rfl ?_
  refine xr_aload_n 10 1 C dX8_copy_9 rfl rfl rfl ?_
  obtain ⟨u10, g10, hf⟩ := mm_bd_e hf
  obtain ⟨M10, h10, hf⟩ := mm_bd_e hf
  refine xr_callV 13 C [mm_r v0] cm_X8_19 (fun l G cy => c_X8_become l G cy h10) g10 rfl rfl ⟨⟨Nat.le_of_ble_eq_true rfl, Nat.le_of_ble_eq_true rfl⟩, (Nat.le_of_ble_eq_true rfl), (Nat.le_of_ble_eq_true rfl)⟩ (Nat.le_of_ble_eq_true rfl) dX8_copy_10 rfl ?_
  refine xr_aload_n 14 0 C dX8_copy_13 rfl rfl rfl ?_
  obtain rfl := Option.some.inj hf
  exact xr_aret (by first | exact Or.inl ⟨_, rfl⟩ | exact Or.inr ⟨_, rfl⟩) C ko ⟨(Nat.le_of_ble_eq_true rfl), (Nat.le_of_ble_eq_true rfl)⟩ dX8_copy_14
noncomputable def f_X8_copy (M : mm_M) (v0 : Option Nat) : Option (Option Nat × mm_M) := f_X8_copy_0 M v0
theorem c_X8_copy (l : Launch) (G : va_G) (cy : Nat → ClassId) {M : mm_M} {v0 : Option Nat} {r : Option Nat} {M1 : mm_M} (hf : f_X8_copy M v0 = some (r, M1)) : mm_Met l yX8_copy cX8_copy 2 (some (.object "LessonCards$Memory")) 2 40 1 7 G cy [mm_r v0] M (some (mm_r r)) M1 :=
  mm_enter (by decide) (Nat.le_of_ble_eq_true rfl) (fun p e R s m args below meth c Q C hq => xr_sub [0] (lv2 := [(0, mm_r v0)]) rfl (w_X8_copy_0 C hf hq))
noncomputable def f_X8_tell_61 (M : mm_M) : Option (Int32) :=
  some (-2)
set_option maxRecDepth 20000 in
theorem w_X8_tell_61 {g : mm_c} (C : mm_ok g cX8_tell "LessonCards$Memory" (some .int) "tell" 2 0 0 0 0) {M : mm_M} {res : Int32} (hf : f_X8_tell_61 M = some res) (ko : (fun z => mm_q g 0 0 (some (mm_i z)) M) res) : mm_X g 0 0 M 61 [] [] := by
  unfold f_X8_tell_61 at hf
  refine xr_bipush 63 C (v := (-2)) dX8_tell_61 (by decide) rfl ?_
  obtain rfl := Option.some.inj hf
  exact xr_iret C ko ⟨(Nat.le_of_ble_eq_true rfl), (Nat.le_of_ble_eq_true rfl)⟩ dX8_tell_63
noncomputable def f_X8_tell_36 (M : mm_M) (v0 : Option Nat) : Option (Int32) :=
  (mm_fI M v0 9 0).bind fun x37 =>
  some x37
set_option maxRecDepth 20000 in
theorem w_X8_tell_36 {g : mm_c} (C : mm_ok g cX8_tell "LessonCards$Memory" (some .int) "tell" 2 0 0 0 0) {M : mm_M} {v0 : Option Nat} {res : Int32} (hf : f_X8_tell_36 M v0 = some res) (ko : (fun z => mm_q g 0 0 (some (mm_i z)) M) res) : mm_X g 0 0 M 36 [(0, mm_r v0)] [] := by
  unfold f_X8_tell_36 at hf
  refine xr_aload_n 37 0 C dX8_tell_36 rfl rfl rfl ?_
  obtain ⟨x37, h37, hf⟩ := mm_bd_e hf
  refine xr_getI 40 C cf_X8_23 rfl h37 dX8_tell_37 rfl ?_
  obtain rfl := Option.some.inj hf
  exact xr_iret C ko ⟨(Nat.le_of_ble_eq_true rfl), (Nat.le_of_ble_eq_true rfl)⟩ dX8_tell_40
noncomputable def f_X8_tell_41 (M : mm_M) (v0 : Option Nat) : Option (Int32) :=
  (mm_fI M v0 9 1).bind fun x42 =>
  some x42
set_option maxRecDepth 20000 in
theorem w_X8_tell_41 {g : mm_c} (C : mm_ok g cX8_tell "LessonCards$Memory" (some .int) "tell" 2 0 0 0 0) {M : mm_M} {v0 : Option Nat} {res : Int32} (hf : f_X8_tell_41 M v0 = some res) (ko : (fun z => mm_q g 0 0 (some (mm_i z)) M) res) : mm_X g 0 0 M 41 [(0, mm_r v0)] [] := by
  unfold f_X8_tell_41 at hf
  refine xr_aload_n 42 0 C dX8_tell_41 rfl rfl rfl ?_
  obtain ⟨x42, h42, hf⟩ := mm_bd_e hf
  refine xr_getI 45 C cf_X8_9 rfl h42 dX8_tell_42 rfl ?_
  obtain rfl := Option.some.inj hf
  exact xr_iret C ko ⟨(Nat.le_of_ble_eq_true rfl), (Nat.le_of_ble_eq_true rfl)⟩ dX8_tell_45
noncomputable def f_X8_tell_46 (M : mm_M) (v0 : Option Nat) : Option (Int32) :=
  (mm_fI M v0 9 2).bind fun x47 =>
  some x47
set_option maxRecDepth 20000 in
theorem w_X8_tell_46 {g : mm_c} (C : mm_ok g cX8_tell "LessonCards$Memory" (some .int) "tell" 2 0 0 0 0) {M : mm_M} {v0 : Option Nat} {res : Int32} (hf : f_X8_tell_46 M v0 = some res) (ko : (fun z => mm_q g 0 0 (some (mm_i z)) M) res) : mm_X g 0 0 M 46 [(0, mm_r v0)] [] := by
  unfold f_X8_tell_46 at hf
  refine xr_aload_n 47 0 C dX8_tell_46 rfl rfl rfl ?_
  obtain ⟨x47, h47, hf⟩ := mm_bd_e hf
  refine xr_getI 50 C cf_X8_26 rfl h47 dX8_tell_47 rfl ?_
  obtain rfl := Option.some.inj hf
  exact xr_iret C ko ⟨(Nat.le_of_ble_eq_true rfl), (Nat.le_of_ble_eq_true rfl)⟩ dX8_tell_50
noncomputable def f_X8_tell_51 (M : mm_M) (v0 : Option Nat) : Option (Int32) :=
  (mm_fI M v0 9 3).bind fun x52 =>
  some x52
set_option maxRecDepth 20000 in
theorem w_X8_tell_51 {g : mm_c} (C : mm_ok g cX8_tell "LessonCards$Memory" (some .int) "tell" 2 0 0 0 0) {M : mm_M} {v0 : Option Nat} {res : Int32} (hf : f_X8_tell_51 M v0 = some res) (ko : (fun z => mm_q g 0 0 (some (mm_i z)) M) res) : mm_X g 0 0 M 51 [(0, mm_r v0)] [] := by
  unfold f_X8_tell_51 at hf
  refine xr_aload_n 52 0 C dX8_tell_51 rfl rfl rfl ?_
  obtain ⟨x52, h52, hf⟩ := mm_bd_e hf
  refine xr_getI 55 C cf_X8_15 rfl h52 dX8_tell_52 rfl ?_
  obtain rfl := Option.some.inj hf
  exact xr_iret C ko ⟨(Nat.le_of_ble_eq_true rfl), (Nat.le_of_ble_eq_true rfl)⟩ dX8_tell_55
noncomputable def f_X8_tell_56 (M : mm_M) (v0 : Option Nat) : Option (Int32) :=
  (mm_fI M v0 9 4).bind fun x57 =>
  some x57
set_option maxRecDepth 20000 in
theorem w_X8_tell_56 {g : mm_c} (C : mm_ok g cX8_tell "LessonCards$Memory" (some .int) "tell" 2 0 0 0 0) {M : mm_M} {v0 : Option Nat} {res : Int32} (hf : f_X8_tell_56 M v0 = some res) (ko : (fun z => mm_q g 0 0 (some (mm_i z)) M) res) : mm_X g 0 0 M 56 [(0, mm_r v0)] [] := by
  unfold f_X8_tell_56 at hf
  refine xr_aload_n 57 0 C dX8_tell_56 rfl rfl rfl ?_
  obtain ⟨x57, h57, hf⟩ := mm_bd_e hf
  refine xr_getI 60 C cf_X8_29 rfl h57 dX8_tell_57 rfl ?_
  obtain rfl := Option.some.inj hf
  exact xr_iret C ko ⟨(Nat.le_of_ble_eq_true rfl), (Nat.le_of_ble_eq_true rfl)⟩ dX8_tell_60
noncomputable def f_X8_tell_0 (M : mm_M) (v0 : Option Nat) (v1 : Int32) : Option (Int32) :=
  if v1 = 0 then f_X8_tell_36 M v0 else if v1 = 1 then f_X8_tell_41 M v0 else if v1 = 2 then f_X8_tell_46 M v0 else if v1 = 3 then f_X8_tell_51 M v0 else if v1 = 4 then f_X8_tell_56 M v0 else f_X8_tell_61 M
set_option maxRecDepth 20000 in
theorem w_X8_tell_0 {g : mm_c} (C : mm_ok g cX8_tell "LessonCards$Memory" (some .int) "tell" 2 0 0 0 0) {M : mm_M} {v0 : Option Nat} {v1 : Int32} {res : Int32} (hf : f_X8_tell_0 M v0 v1 = some res) (ko : (fun z => mm_q g 0 0 (some (mm_i z)) M) res) : mm_X g 0 0 M 0 [(0, mm_r v0), (1, mm_i v1)] [] := by
  unfold f_X8_tell_0 at hf
  refine xr_iload_n 1 1 C dX8_tell_0 rfl rfl rfl ?_
  rcases mm_if_e hf with ⟨hc0, hf⟩ | ⟨hc0, hf⟩
  · refine xr_tin 36 C dX8_tell_1 (off := 35) hc0 (by decide) (by decide) (by decide) (by decide) ?_
    refine xr_sub [0] (lv2 := [(0, mm_r v0)]) rfl ?_
    exact w_X8_tell_36 C hf ko
  ·
    rcases mm_if_e hf with ⟨hc1, hf⟩ | ⟨hc1, hf⟩
    · refine xr_tin 41 C dX8_tell_1 (off := 40) hc1 (by decide) (by decide) (by decide) (by decide) ?_
      refine xr_sub [0] (lv2 := [(0, mm_r v0)]) rfl ?_
      exact w_X8_tell_41 C hf ko
    ·
      rcases mm_if_e hf with ⟨hc2, hf⟩ | ⟨hc2, hf⟩
      · refine xr_tin 46 C dX8_tell_1 (off := 45) hc2 (by decide) (by decide) (by decide) (by decide) ?_
        refine xr_sub [0] (lv2 := [(0, mm_r v0)]) rfl ?_
        exact w_X8_tell_46 C hf ko
      ·
        rcases mm_if_e hf with ⟨hc3, hf⟩ | ⟨hc3, hf⟩
        · refine xr_tin 51 C dX8_tell_1 (off := 50) hc3 (by decide) (by decide) (by decide) (by decide) ?_
          refine xr_sub [0] (lv2 := [(0, mm_r v0)]) rfl ?_
          exact w_X8_tell_51 C hf ko
        ·
          rcases mm_if_e hf with ⟨hc4, hf⟩ | ⟨hc4, hf⟩
          · refine xr_tin 56 C dX8_tell_1 (off := 55) hc4 (by decide) (by decide) (by decide) (by decide) ?_
            refine xr_sub [0] (lv2 := [(0, mm_r v0)]) rfl ?_
            exact w_X8_tell_56 C hf ko
          ·
            refine xr_tout 61 C dX8_tell_1 (mm_swd _ 4 (by decide) (fun k hk => by rcases (show k = 0 ∨ k = 1 ∨ k = 2 ∨ k = 3 ∨ k = 4 by omega) with rfl | rfl | rfl | rfl | rfl <;> assumption)) (by decide) ?_
            refine xr_sub [] (lv2 := []) rfl ?_
            exact w_X8_tell_61 C hf ko
noncomputable def f_X8_tell (M : mm_M) (v0 : Option Nat) (v1 : Int32) : Option (Int32) := f_X8_tell_0 M v0 v1
theorem c_X8_tell (l : Launch) (G : va_G) (cy : Nat → ClassId) {M : mm_M} {v0 : Option Nat} {v1 : Int32} {r : Int32} (hf : f_X8_tell M v0 v1 = some r) : mm_Met l yX8_tell cX8_tell 2 (some .int) 0 0 0 0 G cy [mm_r v0, mm_i v1] M (some (mm_i r)) M :=
  mm_enter (by decide) (Nat.le_of_ble_eq_true rfl) (fun p e R s m args below meth c Q C hq => xr_sub [0, 1] (lv2 := [(0, mm_r v0), (1, mm_i v1)]) rfl (w_X8_tell_0 C hf hq))
