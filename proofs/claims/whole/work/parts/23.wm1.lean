def h_X10_day_52 (g : mm_c) (v0 : Option Nat) (v1 : Int32) : (mm_M × Int32) → Prop := fun x => mm_X g 0 0 x.1 52 [(0, mm_r v0), (1, mm_i v1), (3, mm_i x.2)] []
noncomputable def f_X10_day_31 (M : mm_M) : Option (Int32 × mm_M) :=
  some ((-1), M)
set_option maxRecDepth 20000 in
theorem w_X10_day_31 {g : mm_c} (C : mm_ok g cX10_day "LessonCardsModel" (some .int) "day" 4 1 22 0 0) {M : mm_M} {res : Int32 × mm_M} (hf : f_X10_day_31 M = some res) (ko : (fun z => mm_q g 0 0 (some (mm_i z.1)) z.2) res) : mm_X g 0 0 M 31 [] [] := by
  unfold f_X10_day_31 at hf
  refine xr_iconst 32 C (v := (-1)) dX10_day_31 (by decide) rfl ?_
  obtain rfl := Option.some.inj hf
  exact xr_iret C ko ⟨(Nat.le_of_ble_eq_true rfl), (Nat.le_of_ble_eq_true rfl)⟩ dX10_day_32
noncomputable def f_X10_day_59 (M : mm_M) (v0 : Option Nat) (v1 : Int32) (v3 : Int32) : Option ((mm_M × Int32) ⊕ (Int32 × mm_M)) :=
  (mm_fR M v0 11 12).bind fun x60 =>
  (mm_tZ M x60 ((v1 * 480) + v3) 0).bind fun M71 =>
  (mm_fR M71 v0 11 11).bind fun x73 =>
  (mm_tI M71 x73 ((v1 * 480) + v3) 0).bind fun M84 =>
  some (.inl (M84, (v3 + 1)))
set_option maxRecDepth 20000 in
theorem w_X10_day_59 {g : mm_c} (C : mm_ok g cX10_day "LessonCardsModel" (some .int) "day" 4 1 22 0 0) {M : mm_M} {v0 : Option Nat} {v1 : Int32} {v3 : Int32} {res : (mm_M × Int32) ⊕ (Int32 × mm_M)} (hf : f_X10_day_59 M v0 v1 v3 = some res) (ko : (mm_o (h_X10_day_52 g v0 v1) (fun z => mm_q g 0 0 (some (mm_i z.1)) z.2)) res) : mm_X g 0 0 M 59 [(0, mm_r v0), (1, mm_i v1), (3, mm_i v3)] [] := by
  unfold f_X10_day_59 at hf
  refine xr_aload_n 60 0 C dX10_day_59 rfl rfl rfl ?_
  obtain ⟨x60, h60, hf⟩ := mm_bd_e hf
  refine xr_getR 63 C cf_X10_41 rfl h60 dX10_day_60 rfl ?_
  refine xr_iload_n 64 1 C dX10_day_63 rfl rfl rfl ?_
  refine xr_sipush 67 C (v := 480) dX10_day_64 (by decide) rfl ?_
  refine xr_imul 68 C dX10_day_67 rfl ?_
  refine xr_iload_n 69 2 C dX10_day_68 rfl rfl rfl ?_
  refine xr_iadd 70 C dX10_day_69 rfl ?_
  refine xr_iconst 71 C (v := 0) dX10_day_70 (by decide) rfl ?_
  obtain ⟨M71, h71, hf⟩ := mm_bd_e hf
  refine xr_astZ 72 C h71 dX10_day_71 rfl ?_
  refine xr_aload_n 73 0 C dX10_day_72 rfl rfl rfl ?_
  obtain ⟨x73, h73, hf⟩ := mm_bd_e hf
  refine xr_getR 76 C cf_X10_38 rfl h73 dX10_day_73 rfl ?_
  refine xr_iload_n 77 1 C dX10_day_76 rfl rfl rfl ?_
  refine xr_sipush 80 C (v := 480) dX10_day_77 (by decide) rfl ?_
  refine xr_imul 81 C dX10_day_80 rfl ?_
  refine xr_iload_n 82 2 C dX10_day_81 rfl rfl rfl ?_
  refine xr_iadd 83 C dX10_day_82 rfl ?_
  refine xr_iconst 84 C (v := 0) dX10_day_83 (by decide) rfl ?_
  obtain ⟨M84, h84, hf⟩ := mm_bd_e hf
  refine xr_astI 85 C h84 dX10_day_84 rfl ?_
  refine xr_iinc 88 2 C dX10_day_85 rfl (by decide) (v := 1) (by decide) rfl [(3, mm_i (v3 + 1)), (0, mm_r v0), (1, mm_i v1)] rfl ?_
  refine xr_goto 52 C dX10_day_88 (by decide) ?_
  refine xr_sub [1, 2, 0] (lv2 := [(0, mm_r v0), (1, mm_i v1), (3, mm_i (v3 + 1))]) rfl ?_
  obtain rfl := Option.some.inj hf
  exact ko
noncomputable def f_X10_day_91 (M : mm_M) (v0 : Option Nat) (v1 : Int32) : Option (Int32 × mm_M) :=
  (mm_fR M v0 11 8).bind fun x92 =>
  (mm_aI M x92 12 v1).bind fun x96 =>
  some (x96, M)
set_option maxRecDepth 20000 in
theorem w_X10_day_91 {g : mm_c} (C : mm_ok g cX10_day "LessonCardsModel" (some .int) "day" 4 1 22 0 0) {M : mm_M} {v0 : Option Nat} {v1 : Int32} {res : Int32 × mm_M} (hf : f_X10_day_91 M v0 v1 = some res) (ko : (fun z => mm_q g 0 0 (some (mm_i z.1)) z.2) res) : mm_X g 0 0 M 91 [(0, mm_r v0), (1, mm_i v1)] [] := by
  unfold f_X10_day_91 at hf
  refine xr_aload_n 92 0 C dX10_day_91 rfl rfl rfl ?_
  obtain ⟨x92, h92, hf⟩ := mm_bd_e hf
  refine xr_getR 95 C cf_X10_29 rfl h92 dX10_day_92 rfl ?_
  refine xr_iload_n 96 1 C dX10_day_95 rfl rfl rfl ?_
  obtain ⟨x96, h96, hf⟩ := mm_bd_e hf
  refine xr_aldI 97 C h96 dX10_day_96 rfl ?_
  obtain rfl := Option.some.inj hf
  exact xr_iret C ko ⟨(Nat.le_of_ble_eq_true rfl), (Nat.le_of_ble_eq_true rfl)⟩ dX10_day_97
noncomputable def f_X10_day_52 (M : mm_M) (v0 : Option Nat) (v1 : Int32) (v3 : Int32) : Option ((mm_M × Int32) ⊕ (Int32 × mm_M)) :=
  if 480 ≤ v3 then mm_mp (f_X10_day_91 M v0 v1) else f_X10_day_59 M v0 v1 v3
set_option maxRecDepth 20000 in
theorem w_X10_day_52 {g : mm_c} (C : mm_ok g cX10_day "LessonCardsModel" (some .int) "day" 4 1 22 0 0) {M : mm_M} {v0 : Option Nat} {v1 : Int32} {v3 : Int32} {res : (mm_M × Int32) ⊕ (Int32 × mm_M)} (hf : f_X10_day_52 M v0 v1 v3 = some res) (ko : (mm_o (h_X10_day_52 g v0 v1) (fun z => mm_q g 0 0 (some (mm_i z.1)) z.2)) res) : mm_X g 0 0 M 52 [(0, mm_r v0), (1, mm_i v1), (3, mm_i v3)] [] := by
  unfold f_X10_day_52 at hf
  refine xr_iload_n 53 2 C dX10_day_52 rfl rfl rfl ?_
  refine xr_sipush 56 C (v := 480) dX10_day_53 (by decide) rfl ?_
  refine xr_icmp_ge 91 59 C dX10_day_56 (by decide) rfl (fun hc => ?_) (fun hc => ?_)
  · replace hf := (if_pos hc).symm.trans hf
    refine xr_sub [0, 1] (lv2 := [(0, mm_r v0), (1, mm_i v1)]) rfl ?_
    obtain ⟨z, hf2, rfl⟩ := mm_mp_e hf
    clear hf
    have hf := hf2
    clear hf2
    exact w_X10_day_91 C hf ko
  · replace hf := (if_neg hc).symm.trans hf
    exact w_X10_day_59 C hf ko
noncomputable def f_X10_day_52w (M : mm_M) (v0 : Option Nat) (v1 : Int32) (v3 : Int32) : Option (Int32 × mm_M) := mm_w (fun x => f_X10_day_52 x.1 v0 v1 x.2) (M, v3)
theorem l_X10_day_52 {g : mm_c} (C : mm_ok g cX10_day "LessonCardsModel" (some .int) "day" 4 1 22 0 0) {M : mm_M} {v0 : Option Nat} {v1 : Int32} {v3 : Int32} {res : Int32 × mm_M} (hf : f_X10_day_52w M v0 v1 v3 = some res) (ko : (fun z => mm_q g 0 0 (some (mm_i z.1)) z.2) res) : mm_X g 0 0 M 52 [(0, mm_r v0), (1, mm_i v1), (3, mm_i v3)] [] :=
  mm_w_W (body := fun x => f_X10_day_52 x.1 v0 v1 x.2) (Wh := h_X10_day_52 g v0 v1) (ok := (fun z => mm_q g 0 0 (some (mm_i z.1)) z.2)) (x := (M, v3)) (fun x r hb ho => w_X10_day_52 C hb ho) hf ko
noncomputable def f_X10_day_33 (M : mm_M) (v0 : Option Nat) (v1 : Int32) (v2 : Int32) : Option (Int32 × mm_M) :=
  (mm_fR M v0 11 8).bind fun x34 =>
  (mm_aI M x34 12 v1).bind fun x39 =>
  (mm_tI M x34 v1 (x39 + v2)).bind fun M42 =>
  (mm_fR M42 v0 11 10).bind fun x44 =>
  (mm_tI M42 x44 v1 0).bind fun M49 =>
  f_X10_day_52w M49 v0 v1 0
set_option maxRecDepth 20000 in
theorem w_X10_day_33 {g : mm_c} (C : mm_ok g cX10_day "LessonCardsModel" (some .int) "day" 4 1 22 0 0) {M : mm_M} {v0 : Option Nat} {v1 : Int32} {v2 : Int32} {res : Int32 × mm_M} (hf : f_X10_day_33 M v0 v1 v2 = some res) (ko : (fun z => mm_q g 0 0 (some (mm_i z.1)) z.2) res) : mm_X g 0 0 M 33 [(0, mm_r v0), (1, mm_i v1), (2, mm_i v2)] [] := by
  unfold f_X10_day_33 at hf
  refine xr_aload_n 34 0 C dX10_day_33 rfl rfl rfl ?_
  obtain ⟨x34, h34, hf⟩ := mm_bd_e hf
  refine xr_getR 37 C cf_X10_29 rfl h34 dX10_day_34 rfl ?_
  refine xr_iload_n 38 1 C dX10_day_37 rfl rfl rfl ?_
  refine xr_dup2_11 39 C dX10_day_38 rfl rfl rfl ?_
  obtain ⟨x39, h39, hf⟩ := mm_bd_e hf
  refine xr_aldI 40 C h39 dX10_day_39 rfl ?_
  refine xr_iload_n 41 2 C dX10_day_40 rfl rfl rfl ?_
  refine xr_iadd 42 C dX10_day_41 rfl ?_
  obtain ⟨M42, h42, hf⟩ := mm_bd_e hf
  refine xr_astI 43 C h42 dX10_day_42 rfl ?_
  refine xr_aload_n 44 0 C dX10_day_43 rfl rfl rfl ?_
  obtain ⟨x44, h44, hf⟩ := mm_bd_e hf
  refine xr_getR 47 C cf_X10_35 rfl h44 dX10_day_44 rfl ?_
  refine xr_iload_n 48 1 C dX10_day_47 rfl rfl rfl ?_
  refine xr_iconst 49 C (v := 0) dX10_day_48 (by decide) rfl ?_
  obtain ⟨M49, h49, hf⟩ := mm_bd_e hf
  refine xr_astI 50 C h49 dX10_day_49 rfl ?_
  refine xr_iconst 51 C (v := 0) dX10_day_50 (by decide) rfl ?_
  refine xr_istore_n 52 C dX10_day_51 rfl (by decide) rfl [(3, mm_i 0), (0, mm_r v0), (1, mm_i v1), (2, mm_i v2)] rfl ?_
  refine xr_sub [1, 2, 0] (lv2 := [(0, mm_r v0), (1, mm_i v1), (3, mm_i 0)]) rfl ?_
  exact l_X10_day_52 C hf ko
noncomputable def f_X10_day_18 (M : mm_M) (v0 : Option Nat) (v1 : Int32) (v2 : Int32) : Option (Int32 × mm_M) :=
  (mm_fR M v0 11 8).bind fun x19 =>
  (mm_aI M x19 12 v1).bind fun x23 =>
  if (x23 + v2) ≤ 100000 then f_X10_day_33 M v0 v1 v2 else f_X10_day_31 M
set_option maxRecDepth 20000 in
theorem w_X10_day_18 {g : mm_c} (C : mm_ok g cX10_day "LessonCardsModel" (some .int) "day" 4 1 22 0 0) {M : mm_M} {v0 : Option Nat} {v1 : Int32} {v2 : Int32} {res : Int32 × mm_M} (hf : f_X10_day_18 M v0 v1 v2 = some res) (ko : (fun z => mm_q g 0 0 (some (mm_i z.1)) z.2) res) : mm_X g 0 0 M 18 [(0, mm_r v0), (1, mm_i v1), (2, mm_i v2)] [] := by
  unfold f_X10_day_18 at hf
  refine xr_aload_n 19 0 C dX10_day_18 rfl rfl rfl ?_
  obtain ⟨x19, h19, hf⟩ := mm_bd_e hf
  refine xr_getR 22 C cf_X10_29 rfl h19 dX10_day_19 rfl ?_
  refine xr_iload_n 23 1 C dX10_day_22 rfl rfl rfl ?_
  obtain ⟨x23, h23, hf⟩ := mm_bd_e hf
  refine xr_aldI 24 C h23 dX10_day_23 rfl ?_
  refine xr_iload_n 25 2 C dX10_day_24 rfl rfl rfl ?_
  refine xr_iadd 26 C dX10_day_25 rfl ?_
  refine xr_ldc 28 C wd_1107 dX10_day_26 rfl ?_
  refine xr_icmp_le 33 31 C dX10_day_28 (by decide) rfl (fun hc => ?_) (fun hc => ?_)
  · replace hf := (if_pos hc).symm.trans hf
    exact w_X10_day_33 C hf ko
  · replace hf := (if_neg hc).symm.trans hf
    refine xr_sub [] (lv2 := []) rfl ?_
    exact w_X10_day_31 C hf ko
noncomputable def f_X10_day_7 (M : mm_M) (v0 : Option Nat) (v1 : Int32) (v2 : Int32) : Option (Int32 × mm_M) :=
  (f_X10_within M v2 1 1000).bind fun x12 =>
  if x12 = 0 then f_X10_day_31 M else f_X10_day_18 M v0 v1 v2
set_option maxRecDepth 20000 in
theorem w_X10_day_7 {g : mm_c} (C : mm_ok g cX10_day "LessonCardsModel" (some .int) "day" 4 1 22 0 0) {M : mm_M} {v0 : Option Nat} {v1 : Int32} {v2 : Int32} {res : Int32 × mm_M} (hf : f_X10_day_7 M v0 v1 v2 = some res) (ko : (fun z => mm_q g 0 0 (some (mm_i z.1)) z.2) res) : mm_X g 0 0 M 7 [(0, mm_r v0), (1, mm_i v1), (2, mm_i v2)] [] := by
  unfold f_X10_day_7 at hf
  refine xr_iload_n 8 2 C dX10_day_7 rfl rfl rfl ?_
  refine xr_iconst 9 C (v := 1) dX10_day_8 (by decide) rfl ?_
  refine xr_sipush 12 C (v := 1000) dX10_day_9 (by decide) rfl ?_
  obtain ⟨x12, h12, hf⟩ := mm_bd_e hf
  refine xr_callS 15 C [mm_i v2, mm_i 1, mm_i 1000] cm_X10_123 (fun l G cy => c_X10_within l G cy h12) rfl rfl ⟨⟨Nat.le_of_ble_eq_true rfl, Nat.le_of_ble_eq_true rfl⟩, (Nat.le_of_ble_eq_true rfl), (Nat.le_of_ble_eq_true rfl)⟩ (Nat.le_of_ble_eq_true rfl) dX10_day_12 rfl ?_
  refine xr_if_eq 31 18 C dX10_day_15 (by decide) rfl (fun hc => ?_) (fun hc => ?_)
  · replace hf := (if_pos hc).symm.trans hf
    refine xr_sub [] (lv2 := []) rfl ?_
    exact w_X10_day_31 C hf ko
  · replace hf := (if_neg hc).symm.trans hf
    exact w_X10_day_18 C hf ko
noncomputable def f_X10_day_0 (M : mm_M) (v0 : Option Nat) (v1 : Int32) (v2 : Int32) : Option (Int32 × mm_M) :=
  (f_X10_isPupil M v1).bind fun x1 =>
  if x1 = 0 then f_X10_day_31 M else f_X10_day_7 M v0 v1 v2
set_option maxRecDepth 20000 in
theorem w_X10_day_0 {g : mm_c} (C : mm_ok g cX10_day "LessonCardsModel" (some .int) "day" 4 1 22 0 0) {M : mm_M} {v0 : Option Nat} {v1 : Int32} {v2 : Int32} {res : Int32 × mm_M} (hf : f_X10_day_0 M v0 v1 v2 = some res) (ko : (fun z => mm_q g 0 0 (some (mm_i z.1)) z.2) res) : mm_X g 0 0 M 0 [(0, mm_r v0), (1, mm_i v1), (2, mm_i v2)] [] := by
  unfold f_X10_day_0 at hf
  refine xr_iload_n 1 1 C dX10_day_0 rfl rfl rfl ?_
  obtain ⟨x1, h1, hf⟩ := mm_bd_e hf
  refine xr_callS 4 C [mm_i v1] cm_X10_190 (fun l G cy => c_X10_isPupil l G cy h1) rfl rfl ⟨⟨Nat.le_of_ble_eq_true rfl, Nat.le_of_ble_eq_true rfl⟩, (Nat.le_of_ble_eq_true rfl), (Nat.le_of_ble_eq_true rfl)⟩ (Nat.le_of_ble_eq_true rfl) dX10_day_1 rfl ?_
  refine xr_if_eq 31 7 C dX10_day_4 (by decide) rfl (fun hc => ?_) (fun hc => ?_)
  · replace hf := (if_pos hc).symm.trans hf
    refine xr_sub [] (lv2 := []) rfl ?_
    exact w_X10_day_31 C hf ko
  · replace hf := (if_neg hc).symm.trans hf
    exact w_X10_day_7 C hf ko
noncomputable def f_X10_day (M : mm_M) (v0 : Option Nat) (v1 : Int32) (v2 : Int32) : Option (Int32 × mm_M) := f_X10_day_0 M v0 v1 v2
theorem c_X10_day (l : Launch) (G : va_G) (cy : Nat → ClassId) {M : mm_M} {v0 : Option Nat} {v1 : Int32} {v2 : Int32} {r : Int32} {M1 : mm_M} (hf : f_X10_day M v0 v1 v2 = some (r, M1)) : mm_Met l yX10_day cX10_day 4 (some .int) 1 22 0 0 G cy [mm_r v0, mm_i v1, mm_i v2] M (some (mm_i r)) M1 :=
  mm_enter (by decide) (Nat.le_of_ble_eq_true rfl) (fun p e R s m args below meth c Q C hq => xr_sub [0, 1, 2] (lv2 := [(0, mm_r v0), (1, mm_i v1), (2, mm_i v2)]) rfl (w_X10_day_0 C hf hq))
def h_X10_dueSide_9 (g : mm_c) (v0 : Option Nat) (v1 : Int32) (v2 : Int32) (v3 : Int32) (v4 : Int32) : (mm_M × Int32 × Int32 × Int32) → Prop := fun x => mm_X g 0 0 x.1 9 [(0, mm_r v0), (1, mm_i v1), (2, mm_i v2), (3, mm_i v3), (4, mm_i v4), (5, mm_i x.2.1), (6, mm_i x.2.2.1), (7, mm_i x.2.2.2)] []
noncomputable def f_X10_dueSide_90 (M : mm_M) (v0 : Option Nat) (v1 : Int32) (v2 : Int32) (v3 : Int32) (v4 : Int32) (v5 : Int32) (v6 : Int32) (v7 : Int32) : Option ((mm_M × Int32 × Int32 × Int32) ⊕ (Int32 × mm_M)) :=
  some (.inl (M, v5, v6, (v7 + 1)))
set_option maxRecDepth 20000 in
theorem w_X10_dueSide_90 {g : mm_c} (C : mm_ok g cX10_dueSide "LessonCardsModel" (some .int) "dueSide" 10 2 47 0 0) {M : mm_M} {v0 : Option Nat} {v1 : Int32} {v2 : Int32} {v3 : Int32} {v4 : Int32} {v5 : Int32} {v6 : Int32} {v7 : Int32} {res : (mm_M × Int32 × Int32 × Int32) ⊕ (Int32 × mm_M)} (hf : f_X10_dueSide_90 M v0 v1 v2 v3 v4 v5 v6 v7 = some res) (ko : (mm_o (h_X10_dueSide_9 g v0 v1 v2 v3 v4) (fun z => mm_q g 0 0 (some (mm_i z.1)) z.2)) res) : mm_X g 0 0 M 90 [(0, mm_r v0), (1, mm_i v1), (2, mm_i v2), (3, mm_i v3), (4, mm_i v4), (5, mm_i v5), (6, mm_i v6), (7, mm_i v7)] [] := by
  unfold f_X10_dueSide_90 at hf
  refine xr_iinc 93 7 C dX10_dueSide_90 rfl (by decide) (v := 1) (by decide) rfl [(7, mm_i (v7 + 1)), (0, mm_r v0), (1, mm_i v1), (2, mm_i v2), (3, mm_i v3), (4, mm_i v4), (5, mm_i v5), (6, mm_i v6)] rfl ?_
  refine xr_goto 9 C dX10_dueSide_93 (by decide) ?_
  refine xr_sub [1, 2, 3, 4, 5, 6, 7, 0] (lv2 := [(0, mm_r v0), (1, mm_i v1), (2, mm_i v2), (3, mm_i v3), (4, mm_i v4), (5, mm_i v5), (6, mm_i v6), (7, mm_i (v7 + 1))]) rfl ?_
  obtain rfl := Option.some.inj hf
  exact ko
noncomputable def f_X10_dueSide_82 (M : mm_M) (v0 : Option Nat) (v1 : Int32) (v2 : Int32) (v3 : Int32) (v4 : Int32) (v7 : Int32) (v9 : Int32) : Option ((mm_M × Int32 × Int32 × Int32) ⊕ (Int32 × mm_M)) :=
  f_X10_dueSide_90 M v0 v1 v2 v3 v4 v7 v9 v7
set_option maxRecDepth 20000 in
theorem w_X10_dueSide_82 {g : mm_c} (C : mm_ok g cX10_dueSide "LessonCardsModel" (some .int) "dueSide" 10 2 47 0 0) {M : mm_M} {v0 : Option Nat} {v1 : Int32} {v2 : Int32} {v3 : Int32} {v4 : Int32} {v7 : Int32} {v9 : Int32} {res : (mm_M × Int32 × Int32 × Int32) ⊕ (Int32 × mm_M)} (hf : f_X10_dueSide_82 M v0 v1 v2 v3 v4 v7 v9 = some res) (ko : (mm_o (h_X10_dueSide_9 g v0 v1 v2 v3 v4) (fun z => mm_q g 0 0 (some (mm_i z.1)) z.2)) res) : mm_X g 0 0 M 82 [(0, mm_r v0), (1, mm_i v1), (2, mm_i v2), (3, mm_i v3), (4, mm_i v4), (7, mm_i v7), (9, mm_i v9)] [] := by
  unfold f_X10_dueSide_82 at hf
  refine xr_iload 84 5 C dX10_dueSide_82 rfl rfl ?_
  refine xr_istore 86 C dX10_dueSide_84 (by decide) rfl [(5, mm_i v7), (0, mm_r v0), (1, mm_i v1), (2, mm_i v2), (3, mm_i v3), (4, mm_i v4), (7, mm_i v7), (9, mm_i v9)] rfl ?_
  refine xr_iload 88 7 C dX10_dueSide_86 rfl rfl ?_
  refine xr_istore 90 C dX10_dueSide_88 (by decide) rfl [(6, mm_i v9), (5, mm_i v7), (0, mm_r v0), (1, mm_i v1), (2, mm_i v2), (3, mm_i v3), (4, mm_i v4), (7, mm_i v7), (9, mm_i v9)] rfl ?_
  refine xr_sub [2, 3, 4, 5, 6, 1, 0, 7] (lv2 := [(0, mm_r v0), (1, mm_i v1), (2, mm_i v2), (3, mm_i v3), (4, mm_i v4), (5, mm_i v7), (6, mm_i v9), (7, mm_i v7)]) rfl ?_
  exact w_X10_dueSide_90 C hf ko
noncomputable def f_X10_dueSide_75 (M : mm_M) (v0 : Option Nat) (v1 : Int32) (v2 : Int32) (v3 : Int32) (v4 : Int32) (v5 : Int32) (v6 : Int32) (v7 : Int32) (v9 : Int32) : Option ((mm_M × Int32 × Int32 × Int32) ⊕ (Int32 × mm_M)) :=
  if v6 ≤ v9 then f_X10_dueSide_90 M v0 v1 v2 v3 v4 v5 v6 v7 else f_X10_dueSide_82 M v0 v1 v2 v3 v4 v7 v9
set_option maxRecDepth 20000 in
theorem w_X10_dueSide_75 {g : mm_c} (C : mm_ok g cX10_dueSide "LessonCardsModel" (some .int) "dueSide" 10 2 47 0 0) {M : mm_M} {v0 : Option Nat} {v1 : Int32} {v2 : Int32} {v3 : Int32} {v4 : Int32} {v5 : Int32} {v6 : Int32} {v7 : Int32} {v9 : Int32} {res : (mm_M × Int32 × Int32 × Int32) ⊕ (Int32 × mm_M)} (hf : f_X10_dueSide_75 M v0 v1 v2 v3 v4 v5 v6 v7 v9 = some res) (ko : (mm_o (h_X10_dueSide_9 g v0 v1 v2 v3 v4) (fun z => mm_q g 0 0 (some (mm_i z.1)) z.2)) res) : mm_X g 0 0 M 75 [(0, mm_r v0), (1, mm_i v1), (2, mm_i v2), (3, mm_i v3), (4, mm_i v4), (5, mm_i v5), (6, mm_i v6), (7, mm_i v7), (9, mm_i v9)] [] := by
  unfold f_X10_dueSide_75 at hf
  refine xr_iload 77 8 C dX10_dueSide_75 rfl rfl ?_
  refine xr_iload 79 6 C dX10_dueSide_77 rfl rfl ?_
  refine xr_icmp_ge 90 82 C dX10_dueSide_79 (by decide) rfl (fun hc => ?_) (fun hc => ?_)
  · replace hf := (if_pos hc).symm.trans hf
    refine xr_sub [0, 1, 2, 3, 4, 5, 6, 7] (lv2 := [(0, mm_r v0), (1, mm_i v1), (2, mm_i v2), (3, mm_i v3), (4, mm_i v4), (5, mm_i v5), (6, mm_i v6), (7, mm_i v7)]) rfl ?_
    exact w_X10_dueSide_90 C hf ko
  · replace hf := (if_neg hc).symm.trans hf
    refine xr_sub [0, 1, 2, 3, 4, 7, 8] (lv2 := [(0, mm_r v0), (1, mm_i v1), (2, mm_i v2), (3, mm_i v3), (4, mm_i v4), (7, mm_i v7), (9, mm_i v9)]) rfl ?_
    exact w_X10_dueSide_82 C hf ko
noncomputable def f_X10_dueSide_63 (M : mm_M) (v0 : Option Nat) (v1 : Int32) (v2 : Int32) (v3 : Int32) (v4 : Int32) (v5 : Int32) (v6 : Int32) (v7 : Int32) : Option ((mm_M × Int32 × Int32 × Int32) ⊕ (Int32 × mm_M)) :=
  (mm_rc M v0 11).bind fun u65 =>
  (f_X10_chance M v0 v3).bind fun x65 =>
  if v5 < 0 then f_X10_dueSide_82 M v0 v1 v2 v3 v4 v7 x65 else f_X10_dueSide_75 M v0 v1 v2 v3 v4 v5 v6 v7 x65
set_option maxRecDepth 20000 in
theorem w_X10_dueSide_63 {g : mm_c} (C : mm_ok g cX10_dueSide "LessonCardsModel" (some .int) "dueSide" 10 2 47 0 0) {M : mm_M} {v0 : Option Nat} {v1 : Int32} {v2 : Int32} {v3 : Int32} {v4 : Int32} {v5 : Int32} {v6 : Int32} {v7 : Int32} {res : (mm_M × Int32 × Int32 × Int32) ⊕ (Int32 × mm_M)} (hf : f_X10_dueSide_63 M v0 v1 v2 v3 v4 v5 v6 v7 = some res) (ko : (mm_o (h_X10_dueSide_9 g v0 v1 v2 v3 v4) (fun z => mm_q g 0 0 (some (mm_i z.1)) z.2)) res) : mm_X g 0 0 M 63 [(0, mm_r v0), (1, mm_i v1), (2, mm_i v2), (3, mm_i v3), (4, mm_i v4), (5, mm_i v5), (6, mm_i v6), (7, mm_i v7)] [] := by
  unfold f_X10_dueSide_63 at hf
  refine xr_aload_n 64 0 C dX10_dueSide_63 rfl rfl rfl ?_
  refine xr_iload_n 65 3 C dX10_dueSide_64 rfl rfl rfl ?_
  obtain ⟨u65, g65, hf⟩ := mm_bd_e hf
  obtain ⟨x65, h65, hf⟩ := mm_bd_e hf
  refine xr_callV 68 C [mm_i v3] cm_X10_162 (fun l G cy => c_X10_chance l G cy h65) g65 rfl rfl ⟨⟨Nat.le_of_ble_eq_true rfl, Nat.le_of_ble_eq_true rfl⟩, (Nat.le_of_ble_eq_true rfl), (Nat.le_of_ble_eq_true rfl)⟩ (Nat.le_of_ble_eq_true rfl) dX10_dueSide_65 rfl ?_
  refine xr_istore 70 C dX10_dueSide_68 (by decide) rfl [(9, mm_i x65), (0, mm_r v0), (1, mm_i v1), (2, mm_i v2), (3, mm_i v3), (4, mm_i v4), (5, mm_i v5), (6, mm_i v6), (7, mm_i v7)] rfl ?_
  refine xr_iload 72 6 C dX10_dueSide_70 rfl rfl ?_
  refine xr_if_lt 82 75 C dX10_dueSide_72 (by decide) rfl (fun hc => ?_) (fun hc => ?_)
  · replace hf := (if_pos hc).symm.trans hf
    refine xr_sub [1, 2, 3, 4, 5, 8, 0] (lv2 := [(0, mm_r v0), (1, mm_i v1), (2, mm_i v2), (3, mm_i v3), (4, mm_i v4), (7, mm_i v7), (9, mm_i x65)]) rfl ?_
    exact w_X10_dueSide_82 C hf ko
  · replace hf := (if_neg hc).symm.trans hf
    refine xr_sub [1, 2, 3, 4, 5, 6, 7, 8, 0] (lv2 := [(0, mm_r v0), (1, mm_i v1), (2, mm_i v2), (3, mm_i v3), (4, mm_i v4), (5, mm_i v5), (6, mm_i v6), (7, mm_i v7), (9, mm_i x65)]) rfl ?_
    exact w_X10_dueSide_75 C hf ko
noncomputable def f_X10_dueSide_53 (M : mm_M) (v0 : Option Nat) (v1 : Int32) (v2 : Int32) (v3 : Int32) (v4 : Int32) (v5 : Int32) (v6 : Int32) (v7 : Int32) (v8 : Int32) : Option ((mm_M × Int32 × Int32 × Int32) ⊕ (Int32 × mm_M)) :=
  (mm_fR M v0 11 12).bind fun x54 =>
  (mm_aI M x54 14 v8).bind fun x59 =>
  if x59 = 0 then f_X10_dueSide_63 M v0 v1 v2 v3 v4 v5 v6 v7 else f_X10_dueSide_90 M v0 v1 v2 v3 v4 v5 v6 v7
set_option maxRecDepth 20000 in
theorem w_X10_dueSide_53 {g : mm_c} (C : mm_ok g cX10_dueSide "LessonCardsModel" (some .int) "dueSide" 10 2 47 0 0) {M : mm_M} {v0 : Option Nat} {v1 : Int32} {v2 : Int32} {v3 : Int32} {v4 : Int32} {v5 : Int32} {v6 : Int32} {v7 : Int32} {v8 : Int32} {res : (mm_M × Int32 × Int32 × Int32) ⊕ (Int32 × mm_M)} (hf : f_X10_dueSide_53 M v0 v1 v2 v3 v4 v5 v6 v7 v8 = some res) (ko : (mm_o (h_X10_dueSide_9 g v0 v1 v2 v3 v4) (fun z => mm_q g 0 0 (some (mm_i z.1)) z.2)) res) : mm_X g 0 0 M 53 [(0, mm_r v0), (1, mm_i v1), (2, mm_i v2), (3, mm_i v3), (4, mm_i v4), (5, mm_i v5), (6, mm_i v6), (7, mm_i v7), (8, mm_i v8)] [] := by
  unfold f_X10_dueSide_53 at hf
  refine xr_aload_n 54 0 C dX10_dueSide_53 rfl rfl rfl ?_
  obtain ⟨x54, h54, hf⟩ := mm_bd_e hf
  refine xr_getR 57 C cf_X10_41 rfl h54 dX10_dueSide_54 rfl ?_
  refine xr_iload 59 8 C dX10_dueSide_57 rfl rfl ?_
  obtain ⟨x59, h59, hf⟩ := mm_bd_e hf
  refine xr_aldZ 60 C h59 dX10_dueSide_59 rfl ?_
  refine xr_if_ne 90 63 C dX10_dueSide_60 (by decide) rfl (fun hc => ?_) (fun hc => ?_)
  · replace hf := (if_neg hc).symm.trans hf
    refine xr_sub [0, 1, 2, 3, 4, 5, 6, 7] (lv2 := [(0, mm_r v0), (1, mm_i v1), (2, mm_i v2), (3, mm_i v3), (4, mm_i v4), (5, mm_i v5), (6, mm_i v6), (7, mm_i v7)]) rfl ?_
    exact w_X10_dueSide_90 C hf ko
  · replace hf := (if_pos hc).symm.trans hf
    refine xr_sub [0, 1, 2, 3, 4, 5, 6, 7] (lv2 := [(0, mm_r v0), (1, mm_i v1), (2, mm_i v2), (3, mm_i v3), (4, mm_i v4), (5, mm_i v5), (6, mm_i v6), (7, mm_i v7)]) rfl ?_
    exact w_X10_dueSide_63 C hf ko
noncomputable def f_X10_dueSide_48 (M : mm_M) (v0 : Option Nat) (v1 : Int32) (v2 : Int32) (v3 : Int32) (v4 : Int32) (v5 : Int32) (v6 : Int32) (v7 : Int32) (v8 : Int32) : Option ((mm_M × Int32 × Int32 × Int32) ⊕ (Int32 × mm_M)) :=
  if v4 = 0 then f_X10_dueSide_63 M v0 v1 v2 v3 v4 v5 v6 v7 else f_X10_dueSide_53 M v0 v1 v2 v3 v4 v5 v6 v7 v8
set_option maxRecDepth 20000 in
theorem w_X10_dueSide_48 {g : mm_c} (C : mm_ok g cX10_dueSide "LessonCardsModel" (some .int) "dueSide" 10 2 47 0 0) {M : mm_M} {v0 : Option Nat} {v1 : Int32} {v2 : Int32} {v3 : Int32} {v4 : Int32} {v5 : Int32} {v6 : Int32} {v7 : Int32} {v8 : Int32} {res : (mm_M × Int32 × Int32 × Int32) ⊕ (Int32 × mm_M)} (hf : f_X10_dueSide_48 M v0 v1 v2 v3 v4 v5 v6 v7 v8 = some res) (ko : (mm_o (h_X10_dueSide_9 g v0 v1 v2 v3 v4) (fun z => mm_q g 0 0 (some (mm_i z.1)) z.2)) res) : mm_X g 0 0 M 48 [(0, mm_r v0), (1, mm_i v1), (2, mm_i v2), (3, mm_i v3), (4, mm_i v4), (5, mm_i v5), (6, mm_i v6), (7, mm_i v7), (8, mm_i v8)] [] := by
  unfold f_X10_dueSide_48 at hf
  refine xr_iload 50 4 C dX10_dueSide_48 rfl rfl ?_
  refine xr_if_eq 63 53 C dX10_dueSide_50 (by decide) rfl (fun hc => ?_) (fun hc => ?_)
  · replace hf := (if_pos hc).symm.trans hf
    refine xr_sub [0, 1, 2, 3, 4, 5, 6, 7] (lv2 := [(0, mm_r v0), (1, mm_i v1), (2, mm_i v2), (3, mm_i v3), (4, mm_i v4), (5, mm_i v5), (6, mm_i v6), (7, mm_i v7)]) rfl ?_
    exact w_X10_dueSide_63 C hf ko
  · replace hf := (if_neg hc).symm.trans hf
    exact w_X10_dueSide_53 C hf ko
noncomputable def f_X10_dueSide_20 (M : mm_M) (v0 : Option Nat) (v1 : Int32) (v2 : Int32) (v3 : Int32) (v4 : Int32) (v5 : Int32) (v6 : Int32) (v7 : Int32) : Option ((mm_M × Int32 × Int32 × Int32) ⊕ (Int32 × mm_M)) :=
  (mm_rc M v0 11).bind fun u37 =>
  (f_X10_take M v0 (((v1 * 480) + (4 * v2)) + v7)).bind fun M37 =>
  (mm_rc M37 v0 11).bind fun u42 =>
  (f_X10_isDue M37 v0 v3).bind fun x42 =>
  if x42 = 0 then f_X10_dueSide_90 M37 v0 v1 v2 v3 v4 v5 v6 v7 else f_X10_dueSide_48 M37 v0 v1 v2 v3 v4 v5 v6 v7 (((v1 * 480) + (4 * v2)) + v7)
set_option maxRecDepth 20000 in
theorem w_X10_dueSide_20 {g : mm_c} (C : mm_ok g cX10_dueSide "LessonCardsModel" (some .int) "dueSide" 10 2 47 0 0) {M : mm_M} {v0 : Option Nat} {v1 : Int32} {v2 : Int32} {v3 : Int32} {v4 : Int32} {v5 : Int32} {v6 : Int32} {v7 : Int32} {res : (mm_M × Int32 × Int32 × Int32) ⊕ (Int32 × mm_M)} (hf : f_X10_dueSide_20 M v0 v1 v2 v3 v4 v5 v6 v7 = some res) (ko : (mm_o (h_X10_dueSide_9 g v0 v1 v2 v3 v4) (fun z => mm_q g 0 0 (some (mm_i z.1)) z.2)) res) : mm_X g 0 0 M 20 [(0, mm_r v0), (1, mm_i v1), (2, mm_i v2), (3, mm_i v3), (4, mm_i v4), (5, mm_i v5), (6, mm_i v6), (7, mm_i v7)] [] := by
  unfold f_X10_dueSide_20 at hf
  refine xr_iload_n 21 1 C dX10_dueSide_20 rfl rfl rfl ?_
  refine xr_sipush 24 C (v := 480) dX10_dueSide_21 (by decide) rfl ?_
  refine xr_imul 25 C dX10_dueSide_24 rfl ?_
  refine xr_iconst 26 C (v := 4) dX10_dueSide_25 (by decide) rfl ?_
  refine xr_iload_n 27 2 C dX10_dueSide_26 rfl rfl rfl ?_
  refine xr_imul 28 C dX10_dueSide_27 rfl ?_
  refine xr_iadd 29 C dX10_dueSide_28 rfl ?_
  refine xr_iload 31 7 C dX10_dueSide_29 rfl rfl ?_
  refine xr_iadd 32 C dX10_dueSide_31 rfl ?_
  refine xr_istore 34 C dX10_dueSide_32 (by decide) rfl [(8, mm_i (((v1 * 480) + (4 * v2)) + v7)), (0, mm_r v0), (1, mm_i v1), (2, mm_i v2), (3, mm_i v3), (4, mm_i v4), (5, mm_i v5), (6, mm_i v6), (7, mm_i v7)] rfl ?_
  refine xr_aload_n 35 1 C dX10_dueSide_34 rfl rfl rfl ?_
  refine xr_iload 37 0 C dX10_dueSide_35 rfl rfl ?_
  obtain ⟨u37, g37, hf⟩ := mm_bd_e hf
  obtain ⟨M37, h37, hf⟩ := mm_bd_e hf
  refine xr_callV 40 C [mm_i (((v1 * 480) + (4 * v2)) + v7)] cm_X10_180 (fun l G cy => c_X10_take l G cy h37) g37 rfl rfl ⟨⟨Nat.le_of_ble_eq_true rfl, Nat.le_of_ble_eq_true rfl⟩, (Nat.le_of_ble_eq_true rfl), (Nat.le_of_ble_eq_true rfl)⟩ (Nat.le_of_ble_eq_true rfl) dX10_dueSide_37 rfl ?_
  refine xr_aload_n 41 1 C dX10_dueSide_40 rfl rfl rfl ?_
  refine xr_iload_n 42 4 C dX10_dueSide_41 rfl rfl rfl ?_
  obtain ⟨u42, g42, hf⟩ := mm_bd_e hf
  obtain ⟨x42, h42, hf⟩ := mm_bd_e hf
  refine xr_callV 45 C [mm_i v3] cm_X10_184 (fun l G cy => c_X10_isDue l G cy h42) g42 rfl rfl ⟨⟨Nat.le_of_ble_eq_true rfl, Nat.le_of_ble_eq_true rfl⟩, (Nat.le_of_ble_eq_true rfl), (Nat.le_of_ble_eq_true rfl)⟩ (Nat.le_of_ble_eq_true rfl) dX10_dueSide_42 rfl ?_
  refine xr_if_eq 90 48 C dX10_dueSide_45 (by decide) rfl (fun hc => ?_) (fun hc => ?_)
  · replace hf := (if_pos hc).symm.trans hf
    refine xr_sub [1, 2, 3, 4, 5, 6, 7, 8] (lv2 := [(0, mm_r v0), (1, mm_i v1), (2, mm_i v2), (3, mm_i v3), (4, mm_i v4), (5, mm_i v5), (6, mm_i v6), (7, mm_i v7)]) rfl ?_
    exact w_X10_dueSide_90 C hf ko
  · replace hf := (if_neg hc).symm.trans hf
    refine xr_sub [1, 2, 3, 4, 5, 6, 7, 8, 0] (lv2 := [(0, mm_r v0), (1, mm_i v1), (2, mm_i v2), (3, mm_i v3), (4, mm_i v4), (5, mm_i v5), (6, mm_i v6), (7, mm_i v7), (8, mm_i (((v1 * 480) + (4 * v2)) + v7))]) rfl ?_
    exact w_X10_dueSide_48 C hf ko
noncomputable def f_X10_dueSide_96 (M : mm_M) (v0 : Option Nat) (v5 : Int32) (v6 : Int32) : Option (Int32 × mm_M) :=
  (mm_pI M v0 11 45 v6).bind fun M99 =>
  some (v5, M99)
set_option maxRecDepth 20000 in
theorem w_X10_dueSide_96 {g : mm_c} (C : mm_ok g cX10_dueSide "LessonCardsModel" (some .int) "dueSide" 10 2 47 0 0) {M : mm_M} {v0 : Option Nat} {v5 : Int32} {v6 : Int32} {res : Int32 × mm_M} (hf : f_X10_dueSide_96 M v0 v5 v6 = some res) (ko : (fun z => mm_q g 0 0 (some (mm_i z.1)) z.2) res) : mm_X g 0 0 M 96 [(0, mm_r v0), (5, mm_i v5), (6, mm_i v6)] [] := by
  unfold f_X10_dueSide_96 at hf
  refine xr_aload_n 97 0 C dX10_dueSide_96 rfl rfl rfl ?_
  refine xr_iload 99 2 C dX10_dueSide_97 rfl rfl ?_
  obtain ⟨M99, h99, hf⟩ := mm_bd_e hf
  refine xr_putI 102 C cf_X10_193 (fun h => by cases h) h99 dX10_dueSide_99 rfl ?_
  refine xr_iload 104 1 C dX10_dueSide_102 rfl rfl ?_
  obtain rfl := Option.some.inj hf
  exact xr_iret C ko ⟨(Nat.le_of_ble_eq_true rfl), (Nat.le_of_ble_eq_true rfl)⟩ dX10_dueSide_104
noncomputable def f_X10_dueSide_9 (M : mm_M) (v0 : Option Nat) (v1 : Int32) (v2 : Int32) (v3 : Int32) (v4 : Int32) (v5 : Int32) (v6 : Int32) (v7 : Int32) : Option ((mm_M × Int32 × Int32 × Int32) ⊕ (Int32 × mm_M)) :=
  (mm_fR M v0 11 0).bind fun x12 =>
  (mm_aI M x12 12 v2).bind fun x16 =>
  if x16 ≤ v7 then mm_mp (f_X10_dueSide_96 M v0 v5 v6) else f_X10_dueSide_20 M v0 v1 v2 v3 v4 v5 v6 v7
set_option maxRecDepth 20000 in
theorem w_X10_dueSide_9 {g : mm_c} (C : mm_ok g cX10_dueSide "LessonCardsModel" (some .int) "dueSide" 10 2 47 0 0) {M : mm_M} {v0 : Option Nat} {v1 : Int32} {v2 : Int32} {v3 : Int32} {v4 : Int32} {v5 : Int32} {v6 : Int32} {v7 : Int32} {res : (mm_M × Int32 × Int32 × Int32) ⊕ (Int32 × mm_M)} (hf : f_X10_dueSide_9 M v0 v1 v2 v3 v4 v5 v6 v7 = some res) (ko : (mm_o (h_X10_dueSide_9 g v0 v1 v2 v3 v4) (fun z => mm_q g 0 0 (some (mm_i z.1)) z.2)) res) : mm_X g 0 0 M 9 [(0, mm_r v0), (1, mm_i v1), (2, mm_i v2), (3, mm_i v3), (4, mm_i v4), (5, mm_i v5), (6, mm_i v6), (7, mm_i v7)] [] := by
  unfold f_X10_dueSide_9 at hf
  refine xr_iload 11 7 C dX10_dueSide_9 rfl rfl ?_
  refine xr_aload_n 12 0 C dX10_dueSide_11 rfl rfl rfl ?_
  obtain ⟨x12, h12, hf⟩ := mm_bd_e hf
  refine xr_getR 15 C cf_X10_9 rfl h12 dX10_dueSide_12 rfl ?_
  refine xr_iload_n 16 2 C dX10_dueSide_15 rfl rfl rfl ?_
  obtain ⟨x16, h16, hf⟩ := mm_bd_e hf
  refine xr_aldI 17 C h16 dX10_dueSide_16 rfl ?_
  refine xr_icmp_ge 96 20 C dX10_dueSide_17 (by decide) rfl (fun hc => ?_) (fun hc => ?_)
  · replace hf := (if_pos hc).symm.trans hf
    refine xr_sub [0, 5, 6] (lv2 := [(0, mm_r v0), (5, mm_i v5), (6, mm_i v6)]) rfl ?_
    obtain ⟨z, hf2, rfl⟩ := mm_mp_e hf
    clear hf
    have hf := hf2
    clear hf2
    exact w_X10_dueSide_96 C hf ko
  · replace hf := (if_neg hc).symm.trans hf
    exact w_X10_dueSide_20 C hf ko
noncomputable def f_X10_dueSide_9w (M : mm_M) (v0 : Option Nat) (v1 : Int32) (v2 : Int32) (v3 : Int32) (v4 : Int32) (v5 : Int32) (v6 : Int32) (v7 : Int32) : Option (Int32 × mm_M) := mm_w (fun x => f_X10_dueSide_9 x.1 v0 v1 v2 v3 v4 x.2.1 x.2.2.1 x.2.2.2) (M, v5, v6, v7)
theorem l_X10_dueSide_9 {g : mm_c} (C : mm_ok g cX10_dueSide "LessonCardsModel" (some .int) "dueSide" 10 2 47 0 0) {M : mm_M} {v0 : Option Nat} {v1 : Int32} {v2 : Int32} {v3 : Int32} {v4 : Int32} {v5 : Int32} {v6 : Int32} {v7 : Int32} {res : Int32 × mm_M} (hf : f_X10_dueSide_9w M v0 v1 v2 v3 v4 v5 v6 v7 = some res) (ko : (fun z => mm_q g 0 0 (some (mm_i z.1)) z.2) res) : mm_X g 0 0 M 9 [(0, mm_r v0), (1, mm_i v1), (2, mm_i v2), (3, mm_i v3), (4, mm_i v4), (5, mm_i v5), (6, mm_i v6), (7, mm_i v7)] [] :=
  mm_w_W (body := fun x => f_X10_dueSide_9 x.1 v0 v1 v2 v3 v4 x.2.1 x.2.2.1 x.2.2.2) (Wh := h_X10_dueSide_9 g v0 v1 v2 v3 v4) (ok := (fun z => mm_q g 0 0 (some (mm_i z.1)) z.2)) (x := (M, v5, v6, v7)) (fun x r hb ho => w_X10_dueSide_9 C hb ho) hf ko
noncomputable def f_X10_dueSide_0 (M : mm_M) (v0 : Option Nat) (v1 : Int32) (v2 : Int32) (v3 : Int32) (v4 : Int32) : Option (Int32 × mm_M) :=
  f_X10_dueSide_9w M v0 v1 v2 v3 v4 (-1) 0 0
set_option maxRecDepth 20000 in
theorem w_X10_dueSide_0 {g : mm_c} (C : mm_ok g cX10_dueSide "LessonCardsModel" (some .int) "dueSide" 10 2 47 0 0) {M : mm_M} {v0 : Option Nat} {v1 : Int32} {v2 : Int32} {v3 : Int32} {v4 : Int32} {res : Int32 × mm_M} (hf : f_X10_dueSide_0 M v0 v1 v2 v3 v4 = some res) (ko : (fun z => mm_q g 0 0 (some (mm_i z.1)) z.2) res) : mm_X g 0 0 M 0 [(0, mm_r v0), (1, mm_i v1), (2, mm_i v2), (3, mm_i v3), (4, mm_i v4)] [] := by
  unfold f_X10_dueSide_0 at hf
  refine xr_iconst 1 C (v := (-1)) dX10_dueSide_0 (by decide) rfl ?_
  refine xr_istore 3 C dX10_dueSide_1 (by decide) rfl [(5, mm_i (-1)), (0, mm_r v0), (1, mm_i v1), (2, mm_i v2), (3, mm_i v3), (4, mm_i v4)] rfl ?_
  refine xr_iconst 4 C (v := 0) dX10_dueSide_3 (by decide) rfl ?_
  refine xr_istore 6 C dX10_dueSide_4 (by decide) rfl [(6, mm_i 0), (5, mm_i (-1)), (0, mm_r v0), (1, mm_i v1), (2, mm_i v2), (3, mm_i v3), (4, mm_i v4)] rfl ?_
  refine xr_iconst 7 C (v := 0) dX10_dueSide_6 (by decide) rfl ?_
  refine xr_istore 9 C dX10_dueSide_7 (by decide) rfl [(7, mm_i 0), (6, mm_i 0), (5, mm_i (-1)), (0, mm_r v0), (1, mm_i v1), (2, mm_i v2), (3, mm_i v3), (4, mm_i v4)] rfl ?_
  refine xr_sub [3, 4, 5, 6, 7, 2, 1, 0] (lv2 := [(0, mm_r v0), (1, mm_i v1), (2, mm_i v2), (3, mm_i v3), (4, mm_i v4), (5, mm_i (-1)), (6, mm_i 0), (7, mm_i 0)]) rfl ?_
  exact l_X10_dueSide_9 C hf ko
noncomputable def f_X10_dueSide (M : mm_M) (v0 : Option Nat) (v1 : Int32) (v2 : Int32) (v3 : Int32) (v4 : Int32) : Option (Int32 × mm_M) := f_X10_dueSide_0 M v0 v1 v2 v3 v4
theorem c_X10_dueSide (l : Launch) (G : va_G) (cy : Nat → ClassId) {M : mm_M} {v0 : Option Nat} {v1 : Int32} {v2 : Int32} {v3 : Int32} {v4 : Int32} {r : Int32} {M1 : mm_M} (hf : f_X10_dueSide M v0 v1 v2 v3 v4 = some (r, M1)) : mm_Met l yX10_dueSide cX10_dueSide 10 (some .int) 2 47 0 0 G cy [mm_r v0, mm_i v1, mm_i v2, mm_i v3, mm_i v4] M (some (mm_i r)) M1 :=
  mm_enter (by decide) (Nat.le_of_ble_eq_true rfl) (fun p e R s m args below meth c Q C hq => xr_sub [0, 1, 2, 3, 4] (lv2 := [(0, mm_r v0), (1, mm_i v1), (2, mm_i v2), (3, mm_i v3), (4, mm_i v4)]) rfl (w_X10_dueSide_0 C hf hq))
def h_X10_leanedOn_5 (g : mm_c) (v0 : Option Nat) (v1 : Int32) (v2 : Int32) : (mm_M × Int32 × Int32) → Prop := fun x => mm_X g 0 0 x.1 5 [(0, mm_r v0), (1, mm_i v1), (2, mm_i v2), (3, mm_i x.2.1), (4, mm_i x.2.2)] []
noncomputable def f_X10_leanedOn_41 (M : mm_M) (v0 : Option Nat) (v1 : Int32) (v2 : Int32) (v4 : Int32) (s0 : Int32) (s1 : Int32) : Option ((mm_M × Int32 × Int32) ⊕ (Int32 × mm_M)) :=
  some (.inl (M, (s0 + s1), (v4 + 1)))
set_option maxRecDepth 20000 in
theorem w_X10_leanedOn_41 {g : mm_c} (C : mm_ok g cX10_leanedOn "LessonCardsModel" (some .int) "leanedOn" 5 4 94 0 0) {M : mm_M} {v0 : Option Nat} {v1 : Int32} {v2 : Int32} {v4 : Int32} {s0 : Int32} {s1 : Int32} {res : (mm_M × Int32 × Int32) ⊕ (Int32 × mm_M)} (hf : f_X10_leanedOn_41 M v0 v1 v2 v4 s0 s1 = some res) (ko : (mm_o (h_X10_leanedOn_5 g v0 v1 v2) (fun z => mm_q g 0 0 (some (mm_i z.1)) z.2)) res) : mm_X g 0 0 M 41 [(0, mm_r v0), (1, mm_i v1), (2, mm_i v2), (4, mm_i v4)] [mm_i s1, mm_i s0] := by
  unfold f_X10_leanedOn_41 at hf
  refine xr_iadd 42 C dX10_leanedOn_41 rfl ?_
  refine xr_istore_n 43 C dX10_leanedOn_42 rfl (by decide) rfl [(3, mm_i (s0 + s1)), (0, mm_r v0), (1, mm_i v1), (2, mm_i v2), (4, mm_i v4)] rfl ?_
  refine xr_iinc 46 4 C dX10_leanedOn_43 rfl (by decide) (v := 1) (by decide) rfl [(4, mm_i (v4 + 1)), (3, mm_i (s0 + s1)), (0, mm_r v0), (1, mm_i v1), (2, mm_i v2)] rfl ?_
  refine xr_goto 5 C dX10_leanedOn_46 (by decide) ?_
  refine xr_sub [2, 3, 4, 1, 0] (lv2 := [(0, mm_r v0), (1, mm_i v1), (2, mm_i v2), (3, mm_i (s0 + s1)), (4, mm_i (v4 + 1))]) rfl ?_
  obtain rfl := Option.some.inj hf
  exact ko
noncomputable def f_X10_leanedOn_36 (M : mm_M) (v0 : Option Nat) (v1 : Int32) (v2 : Int32) (v4 : Int32) (s0 : Int32) : Option ((mm_M × Int32 × Int32) ⊕ (Int32 × mm_M)) :=
  f_X10_leanedOn_41 M v0 v1 v2 v4 s0 1
set_option maxRecDepth 20000 in
theorem w_X10_leanedOn_36 {g : mm_c} (C : mm_ok g cX10_leanedOn "LessonCardsModel" (some .int) "leanedOn" 5 4 94 0 0) {M : mm_M} {v0 : Option Nat} {v1 : Int32} {v2 : Int32} {v4 : Int32} {s0 : Int32} {res : (mm_M × Int32 × Int32) ⊕ (Int32 × mm_M)} (hf : f_X10_leanedOn_36 M v0 v1 v2 v4 s0 = some res) (ko : (mm_o (h_X10_leanedOn_5 g v0 v1 v2) (fun z => mm_q g 0 0 (some (mm_i z.1)) z.2)) res) : mm_X g 0 0 M 36 [(0, mm_r v0), (1, mm_i v1), (2, mm_i v2), (4, mm_i v4)] [mm_i s0] := by
  unfold f_X10_leanedOn_36 at hf
  refine xr_iconst 37 C (v := 1) dX10_leanedOn_36 (by decide) rfl ?_
  refine xr_goto 41 C dX10_leanedOn_37 (by decide) ?_
  exact w_X10_leanedOn_41 C hf ko
noncomputable def f_X10_leanedOn_40 (M : mm_M) (v0 : Option Nat) (v1 : Int32) (v2 : Int32) (v4 : Int32) (s0 : Int32) : Option ((mm_M × Int32 × Int32) ⊕ (Int32 × mm_M)) :=
  f_X10_leanedOn_41 M v0 v1 v2 v4 s0 0
set_option maxRecDepth 20000 in
theorem w_X10_leanedOn_40 {g : mm_c} (C : mm_ok g cX10_leanedOn "LessonCardsModel" (some .int) "leanedOn" 5 4 94 0 0) {M : mm_M} {v0 : Option Nat} {v1 : Int32} {v2 : Int32} {v4 : Int32} {s0 : Int32} {res : (mm_M × Int32 × Int32) ⊕ (Int32 × mm_M)} (hf : f_X10_leanedOn_40 M v0 v1 v2 v4 s0 = some res) (ko : (mm_o (h_X10_leanedOn_5 g v0 v1 v2) (fun z => mm_q g 0 0 (some (mm_i z.1)) z.2)) res) : mm_X g 0 0 M 40 [(0, mm_r v0), (1, mm_i v1), (2, mm_i v2), (4, mm_i v4)] [mm_i s0] := by
  unfold f_X10_leanedOn_40 at hf
  refine xr_iconst 41 C (v := 0) dX10_leanedOn_40 (by decide) rfl ?_
  exact w_X10_leanedOn_41 C hf ko
noncomputable def f_X10_leanedOn_16 (M : mm_M) (v0 : Option Nat) (v1 : Int32) (v2 : Int32) (v3 : Int32) (v4 : Int32) : Option ((mm_M × Int32 × Int32) ⊕ (Int32 × mm_M)) :=
  (mm_fR M v0 11 1).bind fun x20 =>
  (mm_aI M x20 12 ((4 * v2) + v4)).bind fun x29 =>
  (mm_rc M v0 11).bind fun u30 =>
  mm_b2 (f_X10_isKnown M v0 v1 x29) fun x30 M30 =>
  if x30 = 0 then f_X10_leanedOn_40 M30 v0 v1 v2 v4 v3 else f_X10_leanedOn_36 M30 v0 v1 v2 v4 v3
set_option maxRecDepth 20000 in
theorem w_X10_leanedOn_16 {g : mm_c} (C : mm_ok g cX10_leanedOn "LessonCardsModel" (some .int) "leanedOn" 5 4 94 0 0) {M : mm_M} {v0 : Option Nat} {v1 : Int32} {v2 : Int32} {v3 : Int32} {v4 : Int32} {res : (mm_M × Int32 × Int32) ⊕ (Int32 × mm_M)} (hf : f_X10_leanedOn_16 M v0 v1 v2 v3 v4 = some res) (ko : (mm_o (h_X10_leanedOn_5 g v0 v1 v2) (fun z => mm_q g 0 0 (some (mm_i z.1)) z.2)) res) : mm_X g 0 0 M 16 [(0, mm_r v0), (1, mm_i v1), (2, mm_i v2), (3, mm_i v3), (4, mm_i v4)] [] := by
  unfold f_X10_leanedOn_16 at hf
  refine xr_iload_n 17 3 C dX10_leanedOn_16 rfl rfl rfl ?_
  refine xr_aload_n 18 0 C dX10_leanedOn_17 rfl rfl rfl ?_
  refine xr_iload_n 19 1 C dX10_leanedOn_18 rfl rfl rfl ?_
  refine xr_aload_n 20 0 C dX10_leanedOn_19 rfl rfl rfl ?_
  obtain ⟨x20, h20, hf⟩ := mm_bd_e hf
  refine xr_getR 23 C cf_X10_13 rfl h20 dX10_leanedOn_20 rfl ?_
  refine xr_iconst 24 C (v := 4) dX10_leanedOn_23 (by decide) rfl ?_
  refine xr_iload_n 25 2 C dX10_leanedOn_24 rfl rfl rfl ?_
  refine xr_imul 26 C dX10_leanedOn_25 rfl ?_
  refine xr_iload 28 4 C dX10_leanedOn_26 rfl rfl ?_
  refine xr_iadd 29 C dX10_leanedOn_28 rfl ?_
  obtain ⟨x29, h29, hf⟩ := mm_bd_e hf
  refine xr_aldI 30 C h29 dX10_leanedOn_29 rfl ?_
  obtain ⟨u30, g30, hf⟩ := mm_bd_e hf
  obtain ⟨x30, M30, h30, hf⟩ := mm_b2_e hf
  refine xr_callV 33 C [mm_i v1, mm_i x29] cm_X10_196 (fun l G cy => c_X10_isKnown l G cy h30) g30 rfl rfl ⟨⟨Nat.le_of_ble_eq_true rfl, Nat.le_of_ble_eq_true rfl⟩, (Nat.le_of_ble_eq_true rfl), (Nat.le_of_ble_eq_true rfl)⟩ (Nat.le_of_ble_eq_true rfl) dX10_leanedOn_30 rfl ?_
  refine xr_if_eq 40 36 C dX10_leanedOn_33 (by decide) rfl (fun hc => ?_) (fun hc => ?_)
  · replace hf := (if_pos hc).symm.trans hf
    refine xr_sub [0, 1, 2, 4] (lv2 := [(0, mm_r v0), (1, mm_i v1), (2, mm_i v2), (4, mm_i v4)]) rfl ?_
    exact w_X10_leanedOn_40 C hf ko
  · replace hf := (if_neg hc).symm.trans hf
    refine xr_sub [0, 1, 2, 4] (lv2 := [(0, mm_r v0), (1, mm_i v1), (2, mm_i v2), (4, mm_i v4)]) rfl ?_
    exact w_X10_leanedOn_36 C hf ko
noncomputable def f_X10_leanedOn_49 (M : mm_M) (v3 : Int32) : Option (Int32 × mm_M) :=
  some (v3, M)
set_option maxRecDepth 20000 in
theorem w_X10_leanedOn_49 {g : mm_c} (C : mm_ok g cX10_leanedOn "LessonCardsModel" (some .int) "leanedOn" 5 4 94 0 0) {M : mm_M} {v3 : Int32} {res : Int32 × mm_M} (hf : f_X10_leanedOn_49 M v3 = some res) (ko : (fun z => mm_q g 0 0 (some (mm_i z.1)) z.2) res) : mm_X g 0 0 M 49 [(3, mm_i v3)] [] := by
  unfold f_X10_leanedOn_49 at hf
  refine xr_iload_n 50 0 C dX10_leanedOn_49 rfl rfl rfl ?_
  obtain rfl := Option.some.inj hf
  exact xr_iret C ko ⟨(Nat.le_of_ble_eq_true rfl), (Nat.le_of_ble_eq_true rfl)⟩ dX10_leanedOn_50
noncomputable def f_X10_leanedOn_5 (M : mm_M) (v0 : Option Nat) (v1 : Int32) (v2 : Int32) (v3 : Int32) (v4 : Int32) : Option ((mm_M × Int32 × Int32) ⊕ (Int32 × mm_M)) :=
  (mm_fR M v0 11 2).bind fun x8 =>
  (mm_aI M x8 12 v2).bind fun x12 =>
  if x12 ≤ v4 then mm_mp (f_X10_leanedOn_49 M v3) else f_X10_leanedOn_16 M v0 v1 v2 v3 v4
set_option maxRecDepth 20000 in
theorem w_X10_leanedOn_5 {g : mm_c} (C : mm_ok g cX10_leanedOn "LessonCardsModel" (some .int) "leanedOn" 5 4 94 0 0) {M : mm_M} {v0 : Option Nat} {v1 : Int32} {v2 : Int32} {v3 : Int32} {v4 : Int32} {res : (mm_M × Int32 × Int32) ⊕ (Int32 × mm_M)} (hf : f_X10_leanedOn_5 M v0 v1 v2 v3 v4 = some res) (ko : (mm_o (h_X10_leanedOn_5 g v0 v1 v2) (fun z => mm_q g 0 0 (some (mm_i z.1)) z.2)) res) : mm_X g 0 0 M 5 [(0, mm_r v0), (1, mm_i v1), (2, mm_i v2), (3, mm_i v3), (4, mm_i v4)] [] := by
  unfold f_X10_leanedOn_5 at hf
  refine xr_iload 7 4 C dX10_leanedOn_5 rfl rfl ?_
  refine xr_aload_n 8 0 C dX10_leanedOn_7 rfl rfl rfl ?_
  obtain ⟨x8, h8, hf⟩ := mm_bd_e hf
  refine xr_getR 11 C cf_X10_16 rfl h8 dX10_leanedOn_8 rfl ?_
  refine xr_iload_n 12 2 C dX10_leanedOn_11 rfl rfl rfl ?_
  obtain ⟨x12, h12, hf⟩ := mm_bd_e hf
  refine xr_aldI 13 C h12 dX10_leanedOn_12 rfl ?_
  refine xr_icmp_ge 49 16 C dX10_leanedOn_13 (by decide) rfl (fun hc => ?_) (fun hc => ?_)
  · replace hf := (if_pos hc).symm.trans hf
    refine xr_sub [3] (lv2 := [(3, mm_i v3)]) rfl ?_
    obtain ⟨z, hf2, rfl⟩ := mm_mp_e hf
    clear hf
    have hf := hf2
    clear hf2
    exact w_X10_leanedOn_49 C hf ko
  · replace hf := (if_neg hc).symm.trans hf
    exact w_X10_leanedOn_16 C hf ko
noncomputable def f_X10_leanedOn_5w (M : mm_M) (v0 : Option Nat) (v1 : Int32) (v2 : Int32) (v3 : Int32) (v4 : Int32) : Option (Int32 × mm_M) := mm_w (fun x => f_X10_leanedOn_5 x.1 v0 v1 v2 x.2.1 x.2.2) (M, v3, v4)
theorem l_X10_leanedOn_5 {g : mm_c} (C : mm_ok g cX10_leanedOn "LessonCardsModel" (some .int) "leanedOn" 5 4 94 0 0) {M : mm_M} {v0 : Option Nat} {v1 : Int32} {v2 : Int32} {v3 : Int32} {v4 : Int32} {res : Int32 × mm_M} (hf : f_X10_leanedOn_5w M v0 v1 v2 v3 v4 = some res) (ko : (fun z => mm_q g 0 0 (some (mm_i z.1)) z.2) res) : mm_X g 0 0 M 5 [(0, mm_r v0), (1, mm_i v1), (2, mm_i v2), (3, mm_i v3), (4, mm_i v4)] [] :=
  mm_w_W (body := fun x => f_X10_leanedOn_5 x.1 v0 v1 v2 x.2.1 x.2.2) (Wh := h_X10_leanedOn_5 g v0 v1 v2) (ok := (fun z => mm_q g 0 0 (some (mm_i z.1)) z.2)) (x := (M, v3, v4)) (fun x r hb ho => w_X10_leanedOn_5 C hb ho) hf ko
noncomputable def f_X10_leanedOn_0 (M : mm_M) (v0 : Option Nat) (v1 : Int32) (v2 : Int32) : Option (Int32 × mm_M) :=
  f_X10_leanedOn_5w M v0 v1 v2 0 0
set_option maxRecDepth 20000 in
theorem w_X10_leanedOn_0 {g : mm_c} (C : mm_ok g cX10_leanedOn "LessonCardsModel" (some .int) "leanedOn" 5 4 94 0 0) {M : mm_M} {v0 : Option Nat} {v1 : Int32} {v2 : Int32} {res : Int32 × mm_M} (hf : f_X10_leanedOn_0 M v0 v1 v2 = some res) (ko : (fun z => mm_q g 0 0 (some (mm_i z.1)) z.2) res) : mm_X g 0 0 M 0 [(0, mm_r v0), (1, mm_i v1), (2, mm_i v2)] [] := by
  unfold f_X10_leanedOn_0 at hf
  refine xr_iconst 1 C (v := 0) dX10_leanedOn_0 (by decide) rfl ?_
  refine xr_istore_n 2 C dX10_leanedOn_1 rfl (by decide) rfl [(3, mm_i 0), (0, mm_r v0), (1, mm_i v1), (2, mm_i v2)] rfl ?_
  refine xr_iconst 3 C (v := 0) dX10_leanedOn_2 (by decide) rfl ?_
  refine xr_istore 5 C dX10_leanedOn_3 (by decide) rfl [(4, mm_i 0), (3, mm_i 0), (0, mm_r v0), (1, mm_i v1), (2, mm_i v2)] rfl ?_
  refine xr_sub [2, 3, 4, 1, 0] (lv2 := [(0, mm_r v0), (1, mm_i v1), (2, mm_i v2), (3, mm_i 0), (4, mm_i 0)]) rfl ?_
  exact l_X10_leanedOn_5 C hf ko
noncomputable def f_X10_leanedOn (M : mm_M) (v0 : Option Nat) (v1 : Int32) (v2 : Int32) : Option (Int32 × mm_M) := f_X10_leanedOn_0 M v0 v1 v2
theorem c_X10_leanedOn (l : Launch) (G : va_G) (cy : Nat → ClassId) {M : mm_M} {v0 : Option Nat} {v1 : Int32} {v2 : Int32} {r : Int32} {M1 : mm_M} (hf : f_X10_leanedOn M v0 v1 v2 = some (r, M1)) : mm_Met l yX10_leanedOn cX10_leanedOn 5 (some .int) 4 94 0 0 G cy [mm_r v0, mm_i v1, mm_i v2] M (some (mm_i r)) M1 :=
  mm_enter (by decide) (Nat.le_of_ble_eq_true rfl) (fun p e R s m args below meth c Q C hq => xr_sub [0, 1, 2] (lv2 := [(0, mm_r v0), (1, mm_i v1), (2, mm_i v2)]) rfl (w_X10_leanedOn_0 C hf hq))
def h_X10_start_65 (g : mm_c) (v0 : Option Nat) (v1 : Int32) (v2 : Int32) (v3 : Int32) (v4 : Int32) (v5 : Int32) : (mm_M × Int32) → Prop := fun x => mm_X g 0 0 x.1 65 [(0, mm_r v0), (1, mm_i v1), (2, mm_i v2), (3, mm_i v3), (4, mm_i v4), (5, mm_i v5), (6, mm_i x.2)] []
def h_X10_start_258 (g : mm_c) (M : mm_M) (v0 : Option Nat) (v1 : Int32) (v2 : Int32) (v3 : Int32) (v4 : Int32) (v5 : Int32) (v6 : Int32) (v7 : Int32) : Int32 → Prop := fun x => mm_X g 0 0 M 258 [(0, mm_r v0), (1, mm_i v1), (2, mm_i v2), (3, mm_i v3), (4, mm_i v4), (5, mm_i v5), (6, mm_i v6), (7, mm_i v7), (8, mm_i x)] []
def h_X10_start_214 (g : mm_c) (M : mm_M) (v0 : Option Nat) (v1 : Int32) (v2 : Int32) (v3 : Int32) (v4 : Int32) (v5 : Int32) (v6 : Int32) : (Int32 × Int32) → Prop := fun x => mm_X g 0 0 M 214 [(0, mm_r v0), (1, mm_i v1), (2, mm_i v2), (3, mm_i v3), (4, mm_i v4), (5, mm_i v5), (6, mm_i v6), (7, mm_i x.1), (8, mm_i x.2)] []
def h_X10_start_190 (g : mm_c) (v0 : Option Nat) (v1 : Int32) (v3 : Int32) (v5 : Int32) : (mm_M × Int32 × Int32 × Int32) → Prop := fun x => mm_X g 0 0 x.1 190 [(0, mm_r v0), (1, mm_i v1), (2, mm_i x.2.1), (3, mm_i v3), (4, mm_i x.2.2.1), (5, mm_i v5), (6, mm_i x.2.2.2)] []
def h_X10_start_32 (g : mm_c) (v0 : Option Nat) (v1 : Int32) (v3 : Int32) : (mm_M × Int32 × Int32) → Prop := fun x => mm_X g 0 0 x.1 32 [(0, mm_r v0), (1, mm_i v1), (2, mm_i x.2.1), (3, mm_i v3), (4, mm_i x.2.2)] []
noncomputable def f_X10_start_7 (M : mm_M) : Option (Int32 × mm_M) :=
  some ((-1), M)
set_option maxRecDepth 20000 in
theorem w_X10_start_7 {g : mm_c} (C : mm_ok g cX10_start "LessonCardsModel" (some .int) "start" 9 5 118 0 0) {M : mm_M} {res : Int32 × mm_M} (hf : f_X10_start_7 M = some res) (ko : (fun z => mm_q g 0 0 (some (mm_i z.1)) z.2) res) : mm_X g 0 0 M 7 [] [] := by
  unfold f_X10_start_7 at hf
  refine xr_iconst 8 C (v := (-1)) dX10_start_7 (by decide) rfl ?_
  obtain rfl := Option.some.inj hf
  exact xr_iret C ko ⟨(Nat.le_of_ble_eq_true rfl), (Nat.le_of_ble_eq_true rfl)⟩ dX10_start_8
noncomputable def f_X10_start_18 (M : mm_M) : Option (Int32 × mm_M) :=
  some ((-5), M)
set_option maxRecDepth 20000 in
theorem w_X10_start_18 {g : mm_c} (C : mm_ok g cX10_start "LessonCardsModel" (some .int) "start" 9 5 118 0 0) {M : mm_M} {res : Int32 × mm_M} (hf : f_X10_start_18 M = some res) (ko : (fun z => mm_q g 0 0 (some (mm_i z.1)) z.2) res) : mm_X g 0 0 M 18 [] [] := by
  unfold f_X10_start_18 at hf
  refine xr_bipush 20 C (v := (-5)) dX10_start_18 (by decide) rfl ?_
  obtain rfl := Option.some.inj hf
  exact xr_iret C ko ⟨(Nat.le_of_ble_eq_true rfl), (Nat.le_of_ble_eq_true rfl)⟩ dX10_start_20
noncomputable def f_X10_start_86 (M : mm_M) (v0 : Option Nat) (v1 : Int32) (v2 : Int32) (v3 : Int32) (v4 : Int32) (v5 : Int32) (v6 : Int32) : Option ((mm_M × Int32) ⊕ ((mm_M × Int32 × Int32) ⊕ (Int32 × mm_M))) :=
  (mm_fR M v0 11 46).bind fun x87 =>
  (mm_fR M v0 11 46).bind fun x93 =>
  (mm_aI M x93 12 (v6 - 1)).bind fun x100 =>
  (mm_tI M x87 v6 x100).bind fun M101 =>
  (mm_fR M101 v0 11 9).bind fun x103 =>
  (mm_fR M101 v0 11 9).bind fun x111 =>
  (mm_aI M101 x111 12 ((v3 + v6) - 1)).bind fun x120 =>
  (mm_tI M101 x103 (v3 + v6) x120).bind fun M121 =>
  some (.inl (M121, (v6 + (-1))))
set_option maxRecDepth 20000 in
theorem w_X10_start_86 {g : mm_c} (C : mm_ok g cX10_start "LessonCardsModel" (some .int) "start" 9 5 118 0 0) {M : mm_M} {v0 : Option Nat} {v1 : Int32} {v2 : Int32} {v3 : Int32} {v4 : Int32} {v5 : Int32} {v6 : Int32} {res : (mm_M × Int32) ⊕ ((mm_M × Int32 × Int32) ⊕ (Int32 × mm_M))} (hf : f_X10_start_86 M v0 v1 v2 v3 v4 v5 v6 = some res) (ko : (mm_o (h_X10_start_65 g v0 v1 v2 v3 v4 v5) (mm_o (h_X10_start_32 g v0 v1 v3) (fun z => mm_q g 0 0 (some (mm_i z.1)) z.2))) res) : mm_X g 0 0 M 86 [(0, mm_r v0), (1, mm_i v1), (2, mm_i v2), (3, mm_i v3), (4, mm_i v4), (5, mm_i v5), (6, mm_i v6)] [] := by
  unfold f_X10_start_86 at hf
  refine xr_aload_n 87 0 C dX10_start_86 rfl rfl rfl ?_
  obtain ⟨x87, h87, hf⟩ := mm_bd_e hf
  refine xr_getR 90 C cf_X10_110 rfl h87 dX10_start_87 rfl ?_
  refine xr_iload 92 6 C dX10_start_90 rfl rfl ?_
  refine xr_aload_n 93 0 C dX10_start_92 rfl rfl rfl ?_
  obtain ⟨x93, h93, hf⟩ := mm_bd_e hf
  refine xr_getR 96 C cf_X10_110 rfl h93 dX10_start_93 rfl ?_
  refine xr_iload 98 6 C dX10_start_96 rfl rfl ?_
  refine xr_iconst 99 C (v := 1) dX10_start_98 (by decide) rfl ?_
  refine xr_isub 100 C dX10_start_99 rfl ?_
  obtain ⟨x100, h100, hf⟩ := mm_bd_e hf
  refine xr_aldI 101 C h100 dX10_start_100 rfl ?_
  obtain ⟨M101, h101, hf⟩ := mm_bd_e hf
  refine xr_astI 102 C h101 dX10_start_101 rfl ?_
  refine xr_aload_n 103 0 C dX10_start_102 rfl rfl rfl ?_
  obtain ⟨x103, h103, hf⟩ := mm_bd_e hf
  refine xr_getR 106 C cf_X10_32 rfl h103 dX10_start_103 rfl ?_
  refine xr_iload_n 107 3 C dX10_start_106 rfl rfl rfl ?_
  refine xr_iload 109 6 C dX10_start_107 rfl rfl ?_
  refine xr_iadd 110 C dX10_start_109 rfl ?_
  refine xr_aload_n 111 0 C dX10_start_110 rfl rfl rfl ?_
  obtain ⟨x111, h111, hf⟩ := mm_bd_e hf
  refine xr_getR 114 C cf_X10_32 rfl h111 dX10_start_111 rfl ?_
  refine xr_iload_n 115 3 C dX10_start_114 rfl rfl rfl ?_
  refine xr_iload 117 6 C dX10_start_115 rfl rfl ?_
  refine xr_iadd 118 C dX10_start_117 rfl ?_
  refine xr_iconst 119 C (v := 1) dX10_start_118 (by decide) rfl ?_
  refine xr_isub 120 C dX10_start_119 rfl ?_
  obtain ⟨x120, h120, hf⟩ := mm_bd_e hf
  refine xr_aldI 121 C h120 dX10_start_120 rfl ?_
  obtain ⟨M121, h121, hf⟩ := mm_bd_e hf
  refine xr_astI 122 C h121 dX10_start_121 rfl ?_
  refine xr_iinc 125 6 C dX10_start_122 rfl (by decide) (v := (-1)) (by decide) rfl [(6, mm_i (v6 + (-1))), (0, mm_r v0), (1, mm_i v1), (2, mm_i v2), (3, mm_i v3), (4, mm_i v4), (5, mm_i v5)] rfl ?_
  refine xr_goto 65 C dX10_start_125 (by decide) ?_
  refine xr_sub [1, 2, 3, 4, 5, 6, 0] (lv2 := [(0, mm_r v0), (1, mm_i v1), (2, mm_i v2), (3, mm_i v3), (4, mm_i v4), (5, mm_i v5), (6, mm_i (v6 + (-1)))]) rfl ?_
  obtain rfl := Option.some.inj hf
  exact ko
noncomputable def f_X10_start_158 (M : mm_M) (v0 : Option Nat) (v1 : Int32) (v2 : Int32) (v3 : Int32) (v4 : Int32) : Option ((mm_M × Int32 × Int32) ⊕ (Int32 × mm_M)) :=
  some (.inl (M, v2, (v4 + 1)))
set_option maxRecDepth 20000 in
theorem w_X10_start_158 {g : mm_c} (C : mm_ok g cX10_start "LessonCardsModel" (some .int) "start" 9 5 118 0 0) {M : mm_M} {v0 : Option Nat} {v1 : Int32} {v2 : Int32} {v3 : Int32} {v4 : Int32} {res : (mm_M × Int32 × Int32) ⊕ (Int32 × mm_M)} (hf : f_X10_start_158 M v0 v1 v2 v3 v4 = some res) (ko : (mm_o (h_X10_start_32 g v0 v1 v3) (fun z => mm_q g 0 0 (some (mm_i z.1)) z.2)) res) : mm_X g 0 0 M 158 [(0, mm_r v0), (1, mm_i v1), (2, mm_i v2), (3, mm_i v3), (4, mm_i v4)] [] := by
  unfold f_X10_start_158 at hf
  refine xr_iinc 161 4 C dX10_start_158 rfl (by decide) (v := 1) (by decide) rfl [(4, mm_i (v4 + 1)), (0, mm_r v0), (1, mm_i v1), (2, mm_i v2), (3, mm_i v3)] rfl ?_
  refine xr_goto 32 C dX10_start_161 (by decide) ?_
  refine xr_sub [1, 2, 3, 4, 0] (lv2 := [(0, mm_r v0), (1, mm_i v1), (2, mm_i v2), (3, mm_i v3), (4, mm_i (v4 + 1))]) rfl ?_
  obtain rfl := Option.some.inj hf
  exact ko
noncomputable def f_X10_start_128 (M : mm_M) (v0 : Option Nat) (v1 : Int32) (v2 : Int32) (v3 : Int32) (v4 : Int32) (v5 : Int32) (v6 : Int32) : Option ((mm_M × Int32 × Int32) ⊕ (Int32 × mm_M)) :=
  (mm_fR M v0 11 46).bind fun x129 =>
  (mm_fI M v0 11 45).bind fun x135 =>
  (mm_tI M x129 v6 x135).bind fun M138 =>
  (mm_fR M138 v0 11 9).bind fun x140 =>
  (mm_tI M138 x140 (v3 + v6) ((4 * v4) + v5)).bind fun M154 =>
  f_X10_start_158 M154 v0 v1 (v2 + 1) v3 v4
set_option maxRecDepth 20000 in
theorem w_X10_start_128 {g : mm_c} (C : mm_ok g cX10_start "LessonCardsModel" (some .int) "start" 9 5 118 0 0) {M : mm_M} {v0 : Option Nat} {v1 : Int32} {v2 : Int32} {v3 : Int32} {v4 : Int32} {v5 : Int32} {v6 : Int32} {res : (mm_M × Int32 × Int32) ⊕ (Int32 × mm_M)} (hf : f_X10_start_128 M v0 v1 v2 v3 v4 v5 v6 = some res) (ko : (mm_o (h_X10_start_32 g v0 v1 v3) (fun z => mm_q g 0 0 (some (mm_i z.1)) z.2)) res) : mm_X g 0 0 M 128 [(0, mm_r v0), (1, mm_i v1), (2, mm_i v2), (3, mm_i v3), (4, mm_i v4), (5, mm_i v5), (6, mm_i v6)] [] := by
  unfold f_X10_start_128 at hf
  refine xr_aload_n 129 0 C dX10_start_128 rfl rfl rfl ?_
  obtain ⟨x129, h129, hf⟩ := mm_bd_e hf
  refine xr_getR 132 C cf_X10_110 rfl h129 dX10_start_129 rfl ?_
  refine xr_iload 134 6 C dX10_start_132 rfl rfl ?_
  refine xr_aload_n 135 0 C dX10_start_134 rfl rfl rfl ?_
  obtain ⟨x135, h135, hf⟩ := mm_bd_e hf
  refine xr_getI 138 C cf_X10_193 rfl h135 dX10_start_135 rfl ?_
  obtain ⟨M138, h138, hf⟩ := mm_bd_e hf
  refine xr_astI 139 C h138 dX10_start_138 rfl ?_
  refine xr_aload_n 140 0 C dX10_start_139 rfl rfl rfl ?_
  obtain ⟨x140, h140, hf⟩ := mm_bd_e hf
  refine xr_getR 143 C cf_X10_32 rfl h140 dX10_start_140 rfl ?_
  refine xr_iload_n 144 3 C dX10_start_143 rfl rfl rfl ?_
  refine xr_iload 146 6 C dX10_start_144 rfl rfl ?_
  refine xr_iadd 147 C dX10_start_146 rfl ?_
  refine xr_iconst 148 C (v := 4) dX10_start_147 (by decide) rfl ?_
  refine xr_iload 150 4 C dX10_start_148 rfl rfl ?_
  refine xr_imul 151 C dX10_start_150 rfl ?_
  refine xr_iload 153 5 C dX10_start_151 rfl rfl ?_
  refine xr_iadd 154 C dX10_start_153 rfl ?_
  obtain ⟨M154, h154, hf⟩ := mm_bd_e hf
  refine xr_astI 155 C h154 dX10_start_154 rfl ?_
  refine xr_iinc 158 2 C dX10_start_155 rfl (by decide) (v := 1) (by decide) rfl [(2, mm_i (v2 + 1)), (0, mm_r v0), (1, mm_i v1), (3, mm_i v3), (4, mm_i v4), (5, mm_i v5), (6, mm_i v6)] rfl ?_
  refine xr_sub [1, 2, 0, 3, 4] (lv2 := [(0, mm_r v0), (1, mm_i v1), (2, mm_i (v2 + 1)), (3, mm_i v3), (4, mm_i v4)]) rfl ?_
  exact w_X10_start_158 C hf ko
noncomputable def f_X10_start_70 (M : mm_M) (v0 : Option Nat) (v1 : Int32) (v2 : Int32) (v3 : Int32) (v4 : Int32) (v5 : Int32) (v6 : Int32) : Option ((mm_M × Int32) ⊕ ((mm_M × Int32 × Int32) ⊕ (Int32 × mm_M))) :=
  (mm_fR M v0 11 46).bind fun x71 =>
  (mm_aI M x71 12 (v6 - 1)).bind fun x78 =>
  (mm_fI M v0 11 45).bind fun x80 =>
  if x78 ≤ x80 then mm_mp (f_X10_start_128 M v0 v1 v2 v3 v4 v5 v6) else f_X10_start_86 M v0 v1 v2 v3 v4 v5 v6
set_option maxRecDepth 20000 in
theorem w_X10_start_70 {g : mm_c} (C : mm_ok g cX10_start "LessonCardsModel" (some .int) "start" 9 5 118 0 0) {M : mm_M} {v0 : Option Nat} {v1 : Int32} {v2 : Int32} {v3 : Int32} {v4 : Int32} {v5 : Int32} {v6 : Int32} {res : (mm_M × Int32) ⊕ ((mm_M × Int32 × Int32) ⊕ (Int32 × mm_M))} (hf : f_X10_start_70 M v0 v1 v2 v3 v4 v5 v6 = some res) (ko : (mm_o (h_X10_start_65 g v0 v1 v2 v3 v4 v5) (mm_o (h_X10_start_32 g v0 v1 v3) (fun z => mm_q g 0 0 (some (mm_i z.1)) z.2))) res) : mm_X g 0 0 M 70 [(0, mm_r v0), (1, mm_i v1), (2, mm_i v2), (3, mm_i v3), (4, mm_i v4), (5, mm_i v5), (6, mm_i v6)] [] := by
  unfold f_X10_start_70 at hf
  refine xr_aload_n 71 0 C dX10_start_70 rfl rfl rfl ?_
  obtain ⟨x71, h71, hf⟩ := mm_bd_e hf
  refine xr_getR 74 C cf_X10_110 rfl h71 dX10_start_71 rfl ?_
  refine xr_iload 76 6 C dX10_start_74 rfl rfl ?_
  refine xr_iconst 77 C (v := 1) dX10_start_76 (by decide) rfl ?_
  refine xr_isub 78 C dX10_start_77 rfl ?_
  obtain ⟨x78, h78, hf⟩ := mm_bd_e hf
  refine xr_aldI 79 C h78 dX10_start_78 rfl ?_
  refine xr_aload_n 80 0 C dX10_start_79 rfl rfl rfl ?_
  obtain ⟨x80, h80, hf⟩ := mm_bd_e hf
  refine xr_getI 83 C cf_X10_193 rfl h80 dX10_start_80 rfl ?_
  refine xr_icmp_le 128 86 C dX10_start_83 (by decide) rfl (fun hc => ?_) (fun hc => ?_)
  · replace hf := (if_pos hc).symm.trans hf
    obtain ⟨z, hf2, rfl⟩ := mm_mp_e hf
    clear hf
    have hf := hf2
    clear hf2
    exact w_X10_start_128 C hf ko
  · replace hf := (if_neg hc).symm.trans hf
    exact w_X10_start_86 C hf ko
noncomputable def f_X10_start_65 (M : mm_M) (v0 : Option Nat) (v1 : Int32) (v2 : Int32) (v3 : Int32) (v4 : Int32) (v5 : Int32) (v6 : Int32) : Option ((mm_M × Int32) ⊕ ((mm_M × Int32 × Int32) ⊕ (Int32 × mm_M))) :=
  if v6 ≤ 0 then mm_mp (f_X10_start_128 M v0 v1 v2 v3 v4 v5 v6) else f_X10_start_70 M v0 v1 v2 v3 v4 v5 v6
set_option maxRecDepth 20000 in
theorem w_X10_start_65 {g : mm_c} (C : mm_ok g cX10_start "LessonCardsModel" (some .int) "start" 9 5 118 0 0) {M : mm_M} {v0 : Option Nat} {v1 : Int32} {v2 : Int32} {v3 : Int32} {v4 : Int32} {v5 : Int32} {v6 : Int32} {res : (mm_M × Int32) ⊕ ((mm_M × Int32 × Int32) ⊕ (Int32 × mm_M))} (hf : f_X10_start_65 M v0 v1 v2 v3 v4 v5 v6 = some res) (ko : (mm_o (h_X10_start_65 g v0 v1 v2 v3 v4 v5) (mm_o (h_X10_start_32 g v0 v1 v3) (fun z => mm_q g 0 0 (some (mm_i z.1)) z.2))) res) : mm_X g 0 0 M 65 [(0, mm_r v0), (1, mm_i v1), (2, mm_i v2), (3, mm_i v3), (4, mm_i v4), (5, mm_i v5), (6, mm_i v6)] [] := by
  unfold f_X10_start_65 at hf
  refine xr_iload 67 6 C dX10_start_65 rfl rfl ?_
  refine xr_if_le 128 70 C dX10_start_67 (by decide) rfl (fun hc => ?_) (fun hc => ?_)
  · replace hf := (if_pos hc).symm.trans hf
    obtain ⟨z, hf2, rfl⟩ := mm_mp_e hf
    clear hf
    have hf := hf2
    clear hf2
    exact w_X10_start_128 C hf ko
  · replace hf := (if_neg hc).symm.trans hf
    exact w_X10_start_70 C hf ko
noncomputable def f_X10_start_65w (M : mm_M) (v0 : Option Nat) (v1 : Int32) (v2 : Int32) (v3 : Int32) (v4 : Int32) (v5 : Int32) (v6 : Int32) : Option ((mm_M × Int32 × Int32) ⊕ (Int32 × mm_M)) := mm_w (fun x => f_X10_start_65 x.1 v0 v1 v2 v3 v4 v5 x.2) (M, v6)
theorem l_X10_start_65 {g : mm_c} (C : mm_ok g cX10_start "LessonCardsModel" (some .int) "start" 9 5 118 0 0) {M : mm_M} {v0 : Option Nat} {v1 : Int32} {v2 : Int32} {v3 : Int32} {v4 : Int32} {v5 : Int32} {v6 : Int32} {res : (mm_M × Int32 × Int32) ⊕ (Int32 × mm_M)} (hf : f_X10_start_65w M v0 v1 v2 v3 v4 v5 v6 = some res) (ko : (mm_o (h_X10_start_32 g v0 v1 v3) (fun z => mm_q g 0 0 (some (mm_i z.1)) z.2)) res) : mm_X g 0 0 M 65 [(0, mm_r v0), (1, mm_i v1), (2, mm_i v2), (3, mm_i v3), (4, mm_i v4), (5, mm_i v5), (6, mm_i v6)] [] :=
  mm_w_W (body := fun x => f_X10_start_65 x.1 v0 v1 v2 v3 v4 v5 x.2) (Wh := h_X10_start_65 g v0 v1 v2 v3 v4 v5) (ok := (mm_o (h_X10_start_32 g v0 v1 v3) (fun z => mm_q g 0 0 (some (mm_i z.1)) z.2))) (x := (M, v6)) (fun x r hb ho => w_X10_start_65 C hb ho) hf ko
noncomputable def f_X10_start_62 (M : mm_M) (v0 : Option Nat) (v1 : Int32) (v2 : Int32) (v3 : Int32) (v4 : Int32) (v5 : Int32) : Option ((mm_M × Int32 × Int32) ⊕ (Int32 × mm_M)) :=
  f_X10_start_65w M v0 v1 v2 v3 v4 v5 v2
set_option maxRecDepth 20000 in
theorem w_X10_start_62 {g : mm_c} (C : mm_ok g cX10_start "LessonCardsModel" (some .int) "start" 9 5 118 0 0) {M : mm_M} {v0 : Option Nat} {v1 : Int32} {v2 : Int32} {v3 : Int32} {v4 : Int32} {v5 : Int32} {res : (mm_M × Int32 × Int32) ⊕ (Int32 × mm_M)} (hf : f_X10_start_62 M v0 v1 v2 v3 v4 v5 = some res) (ko : (mm_o (h_X10_start_32 g v0 v1 v3) (fun z => mm_q g 0 0 (some (mm_i z.1)) z.2)) res) : mm_X g 0 0 M 62 [(0, mm_r v0), (1, mm_i v1), (2, mm_i v2), (3, mm_i v3), (4, mm_i v4), (5, mm_i v5)] [] := by
  unfold f_X10_start_62 at hf
  refine xr_iload_n 63 2 C dX10_start_62 rfl rfl rfl ?_
  refine xr_istore 65 C dX10_start_63 (by decide) rfl [(6, mm_i v2), (0, mm_r v0), (1, mm_i v1), (2, mm_i v2), (3, mm_i v3), (4, mm_i v4), (5, mm_i v5)] rfl ?_
  refine xr_sub [1, 2, 3, 4, 5, 6, 0] (lv2 := [(0, mm_r v0), (1, mm_i v1), (2, mm_i v2), (3, mm_i v3), (4, mm_i v4), (5, mm_i v5), (6, mm_i v2)]) rfl ?_
  exact l_X10_start_65 C hf ko
noncomputable def f_X10_start_41 (M : mm_M) (v0 : Option Nat) (v1 : Int32) (v2 : Int32) (v3 : Int32) (v4 : Int32) : Option ((mm_M × Int32 × Int32) ⊕ (Int32 × mm_M)) :=
  (mm_fR M v0 11 8).bind fun x46 =>
  (mm_aI M x46 12 v1).bind fun x50 =>
  (mm_rc M v0 11).bind fun u52 =>
  mm_b2 (f_X10_dueSide M v0 v1 v4 x50 1) fun x52 M52 =>
  if x52 < 0 then f_X10_start_158 M52 v0 v1 v2 v3 v4 else f_X10_start_62 M52 v0 v1 v2 v3 v4 x52
set_option maxRecDepth 20000 in
theorem w_X10_start_41 {g : mm_c} (C : mm_ok g cX10_start "LessonCardsModel" (some .int) "start" 9 5 118 0 0) {M : mm_M} {v0 : Option Nat} {v1 : Int32} {v2 : Int32} {v3 : Int32} {v4 : Int32} {res : (mm_M × Int32 × Int32) ⊕ (Int32 × mm_M)} (hf : f_X10_start_41 M v0 v1 v2 v3 v4 = some res) (ko : (mm_o (h_X10_start_32 g v0 v1 v3) (fun z => mm_q g 0 0 (some (mm_i z.1)) z.2)) res) : mm_X g 0 0 M 41 [(0, mm_r v0), (1, mm_i v1), (2, mm_i v2), (3, mm_i v3), (4, mm_i v4)] [] := by
  unfold f_X10_start_41 at hf
  refine xr_aload_n 42 0 C dX10_start_41 rfl rfl rfl ?_
  refine xr_iload_n 43 1 C dX10_start_42 rfl rfl rfl ?_
  refine xr_iload 45 4 C dX10_start_43 rfl rfl ?_
  refine xr_aload_n 46 0 C dX10_start_45 rfl rfl rfl ?_
  obtain ⟨x46, h46, hf⟩ := mm_bd_e hf
  refine xr_getR 49 C cf_X10_29 rfl h46 dX10_start_46 rfl ?_
  refine xr_iload_n 50 1 C dX10_start_49 rfl rfl rfl ?_
  obtain ⟨x50, h50, hf⟩ := mm_bd_e hf
  refine xr_aldI 51 C h50 dX10_start_50 rfl ?_
  refine xr_iconst 52 C (v := 1) dX10_start_51 (by decide) rfl ?_
  obtain ⟨u52, g52, hf⟩ := mm_bd_e hf
  obtain ⟨x52, M52, h52, hf⟩ := mm_b2_e hf
  refine xr_callV 55 C [mm_i v1, mm_i v4, mm_i x50, mm_i 1] cm_X10_199 (fun l G cy => c_X10_dueSide l G cy h52) g52 rfl rfl ⟨⟨Nat.le_of_ble_eq_true rfl, Nat.le_of_ble_eq_true rfl⟩, (Nat.le_of_ble_eq_true rfl), (Nat.le_of_ble_eq_true rfl)⟩ (Nat.le_of_ble_eq_true rfl) dX10_start_52 rfl ?_
  refine xr_istore 57 C dX10_start_55 (by decide) rfl [(5, mm_i x52), (0, mm_r v0), (1, mm_i v1), (2, mm_i v2), (3, mm_i v3), (4, mm_i v4)] rfl ?_
  refine xr_iload 59 0 C dX10_start_57 rfl rfl ?_
  refine xr_if_lt 158 62 C dX10_start_59 (by decide) rfl (fun hc => ?_) (fun hc => ?_)
  · replace hf := (if_pos hc).symm.trans hf
    refine xr_sub [1, 2, 3, 4, 5] (lv2 := [(0, mm_r v0), (1, mm_i v1), (2, mm_i v2), (3, mm_i v3), (4, mm_i v4)]) rfl ?_
    exact w_X10_start_158 C hf ko
  · replace hf := (if_neg hc).symm.trans hf
    refine xr_sub [1, 2, 3, 4, 5, 0] (lv2 := [(0, mm_r v0), (1, mm_i v1), (2, mm_i v2), (3, mm_i v3), (4, mm_i v4), (5, mm_i x52)]) rfl ?_
    exact w_X10_start_62 C hf ko
noncomputable def f_X10_start_247 (M : mm_M) (v0 : Option Nat) (v1 : Int32) (v2 : Int32) (v3 : Int32) (v4 : Int32) (v5 : Int32) (v6 : Int32) (v8 : Int32) (s0 : Int32) : Option ((Int32 × Int32) ⊕ ((mm_M × Int32 × Int32 × Int32) ⊕ (Int32 × mm_M))) :=
  some (.inl (s0, (v8 + 1)))
set_option maxRecDepth 20000 in
theorem w_X10_start_247 {g : mm_c} (C : mm_ok g cX10_start "LessonCardsModel" (some .int) "start" 9 5 118 0 0) {M : mm_M} {v0 : Option Nat} {v1 : Int32} {v2 : Int32} {v3 : Int32} {v4 : Int32} {v5 : Int32} {v6 : Int32} {v8 : Int32} {s0 : Int32} {res : (Int32 × Int32) ⊕ ((mm_M × Int32 × Int32 × Int32) ⊕ (Int32 × mm_M))} (hf : f_X10_start_247 M v0 v1 v2 v3 v4 v5 v6 v8 s0 = some res) (ko : (mm_o (h_X10_start_214 g M v0 v1 v2 v3 v4 v5 v6) (mm_o (h_X10_start_190 g v0 v1 v3 v5) (fun z => mm_q g 0 0 (some (mm_i z.1)) z.2))) res) : mm_X g 0 0 M 247 [(0, mm_r v0), (1, mm_i v1), (2, mm_i v2), (3, mm_i v3), (4, mm_i v4), (5, mm_i v5), (6, mm_i v6), (8, mm_i v8)] [mm_i s0] := by
  unfold f_X10_start_247 at hf
  refine xr_istore 249 C dX10_start_247 (by decide) rfl [(7, mm_i s0), (0, mm_r v0), (1, mm_i v1), (2, mm_i v2), (3, mm_i v3), (4, mm_i v4), (5, mm_i v5), (6, mm_i v6), (8, mm_i v8)] rfl ?_
  refine xr_iinc 252 8 C dX10_start_249 rfl (by decide) (v := 1) (by decide) rfl [(8, mm_i (v8 + 1)), (7, mm_i s0), (0, mm_r v0), (1, mm_i v1), (2, mm_i v2), (3, mm_i v3), (4, mm_i v4), (5, mm_i v5), (6, mm_i v6)] rfl ?_
  refine xr_goto 214 C dX10_start_252 (by decide) ?_
  refine xr_sub [2, 3, 4, 5, 6, 7, 8, 1, 0] (lv2 := [(0, mm_r v0), (1, mm_i v1), (2, mm_i v2), (3, mm_i v3), (4, mm_i v4), (5, mm_i v5), (6, mm_i v6), (7, mm_i s0), (8, mm_i (v8 + 1))]) rfl ?_
  obtain rfl := Option.some.inj hf
  exact ko
noncomputable def f_X10_start_242 (M : mm_M) (v0 : Option Nat) (v1 : Int32) (v2 : Int32) (v3 : Int32) (v4 : Int32) (v5 : Int32) (v6 : Int32) (v8 : Int32) : Option ((Int32 × Int32) ⊕ ((mm_M × Int32 × Int32 × Int32) ⊕ (Int32 × mm_M))) :=
  f_X10_start_247 M v0 v1 v2 v3 v4 v5 v6 v8 1
set_option maxRecDepth 20000 in
theorem w_X10_start_242 {g : mm_c} (C : mm_ok g cX10_start "LessonCardsModel" (some .int) "start" 9 5 118 0 0) {M : mm_M} {v0 : Option Nat} {v1 : Int32} {v2 : Int32} {v3 : Int32} {v4 : Int32} {v5 : Int32} {v6 : Int32} {v8 : Int32} {res : (Int32 × Int32) ⊕ ((mm_M × Int32 × Int32 × Int32) ⊕ (Int32 × mm_M))} (hf : f_X10_start_242 M v0 v1 v2 v3 v4 v5 v6 v8 = some res) (ko : (mm_o (h_X10_start_214 g M v0 v1 v2 v3 v4 v5 v6) (mm_o (h_X10_start_190 g v0 v1 v3 v5) (fun z => mm_q g 0 0 (some (mm_i z.1)) z.2))) res) : mm_X g 0 0 M 242 [(0, mm_r v0), (1, mm_i v1), (2, mm_i v2), (3, mm_i v3), (4, mm_i v4), (5, mm_i v5), (6, mm_i v6), (8, mm_i v8)] [] := by
  unfold f_X10_start_242 at hf
  refine xr_iconst 243 C (v := 1) dX10_start_242 (by decide) rfl ?_
  refine xr_goto 247 C dX10_start_243 (by decide) ?_
  exact w_X10_start_247 C hf ko
noncomputable def f_X10_start_246 (M : mm_M) (v0 : Option Nat) (v1 : Int32) (v2 : Int32) (v3 : Int32) (v4 : Int32) (v5 : Int32) (v6 : Int32) (v8 : Int32) : Option ((Int32 × Int32) ⊕ ((mm_M × Int32 × Int32 × Int32) ⊕ (Int32 × mm_M))) :=
  f_X10_start_247 M v0 v1 v2 v3 v4 v5 v6 v8 0
set_option maxRecDepth 20000 in
theorem w_X10_start_246 {g : mm_c} (C : mm_ok g cX10_start "LessonCardsModel" (some .int) "start" 9 5 118 0 0) {M : mm_M} {v0 : Option Nat} {v1 : Int32} {v2 : Int32} {v3 : Int32} {v4 : Int32} {v5 : Int32} {v6 : Int32} {v8 : Int32} {res : (Int32 × Int32) ⊕ ((mm_M × Int32 × Int32 × Int32) ⊕ (Int32 × mm_M))} (hf : f_X10_start_246 M v0 v1 v2 v3 v4 v5 v6 v8 = some res) (ko : (mm_o (h_X10_start_214 g M v0 v1 v2 v3 v4 v5 v6) (mm_o (h_X10_start_190 g v0 v1 v3 v5) (fun z => mm_q g 0 0 (some (mm_i z.1)) z.2))) res) : mm_X g 0 0 M 246 [(0, mm_r v0), (1, mm_i v1), (2, mm_i v2), (3, mm_i v3), (4, mm_i v4), (5, mm_i v5), (6, mm_i v6), (8, mm_i v8)] [] := by
  unfold f_X10_start_246 at hf
  refine xr_iconst 247 C (v := 0) dX10_start_246 (by decide) rfl ?_
  exact w_X10_start_247 C hf ko
noncomputable def f_X10_start_226 (M : mm_M) (v0 : Option Nat) (v1 : Int32) (v2 : Int32) (v3 : Int32) (v4 : Int32) (v5 : Int32) (v6 : Int32) (v8 : Int32) : Option ((Int32 × Int32) ⊕ ((mm_M × Int32 × Int32 × Int32) ⊕ (Int32 × mm_M))) :=
  (mm_fR M v0 11 9).bind fun x227 =>
  (mm_aI M x227 12 (v3 + v8)).bind fun x234 =>
  if (x234 / 4) = v6 then f_X10_start_242 M v0 v1 v2 v3 v4 v5 v6 v8 else f_X10_start_246 M v0 v1 v2 v3 v4 v5 v6 v8
set_option maxRecDepth 20000 in
theorem w_X10_start_226 {g : mm_c} (C : mm_ok g cX10_start "LessonCardsModel" (some .int) "start" 9 5 118 0 0) {M : mm_M} {v0 : Option Nat} {v1 : Int32} {v2 : Int32} {v3 : Int32} {v4 : Int32} {v5 : Int32} {v6 : Int32} {v8 : Int32} {res : (Int32 × Int32) ⊕ ((mm_M × Int32 × Int32 × Int32) ⊕ (Int32 × mm_M))} (hf : f_X10_start_226 M v0 v1 v2 v3 v4 v5 v6 v8 = some res) (ko : (mm_o (h_X10_start_214 g M v0 v1 v2 v3 v4 v5 v6) (mm_o (h_X10_start_190 g v0 v1 v3 v5) (fun z => mm_q g 0 0 (some (mm_i z.1)) z.2))) res) : mm_X g 0 0 M 226 [(0, mm_r v0), (1, mm_i v1), (2, mm_i v2), (3, mm_i v3), (4, mm_i v4), (5, mm_i v5), (6, mm_i v6), (8, mm_i v8)] [] := by
  unfold f_X10_start_226 at hf
  refine xr_aload_n 227 0 C dX10_start_226 rfl rfl rfl ?_
  obtain ⟨x227, h227, hf⟩ := mm_bd_e hf
  refine xr_getR 230 C cf_X10_32 rfl h227 dX10_start_227 rfl ?_
  refine xr_iload_n 231 3 C dX10_start_230 rfl rfl rfl ?_
  refine xr_iload 233 7 C dX10_start_231 rfl rfl ?_
  refine xr_iadd 234 C dX10_start_233 rfl ?_
  obtain ⟨x234, h234, hf⟩ := mm_bd_e hf
  refine xr_aldI 235 C h234 dX10_start_234 rfl ?_
  refine xr_iconst 236 C (v := 4) dX10_start_235 (by decide) rfl ?_
  refine xr_idiv 237 C dX10_start_236 (by decide) rfl ?_
  refine xr_iload 239 6 C dX10_start_237 rfl rfl ?_
  refine xr_icmp_ne 246 242 C dX10_start_239 (by decide) rfl (fun hc => ?_) (fun hc => ?_)
  · replace hf := (if_neg hc).symm.trans hf
    exact w_X10_start_246 C hf ko
  · replace hf := (if_pos hc).symm.trans hf
    exact w_X10_start_242 C hf ko
noncomputable def f_X10_start_221 (M : mm_M) (v0 : Option Nat) (v1 : Int32) (v2 : Int32) (v3 : Int32) (v4 : Int32) (v5 : Int32) (v6 : Int32) (v7 : Int32) (v8 : Int32) : Option ((Int32 × Int32) ⊕ ((mm_M × Int32 × Int32 × Int32) ⊕ (Int32 × mm_M))) :=
  if v7 = 0 then f_X10_start_226 M v0 v1 v2 v3 v4 v5 v6 v8 else f_X10_start_242 M v0 v1 v2 v3 v4 v5 v6 v8
set_option maxRecDepth 20000 in
theorem w_X10_start_221 {g : mm_c} (C : mm_ok g cX10_start "LessonCardsModel" (some .int) "start" 9 5 118 0 0) {M : mm_M} {v0 : Option Nat} {v1 : Int32} {v2 : Int32} {v3 : Int32} {v4 : Int32} {v5 : Int32} {v6 : Int32} {v7 : Int32} {v8 : Int32} {res : (Int32 × Int32) ⊕ ((mm_M × Int32 × Int32 × Int32) ⊕ (Int32 × mm_M))} (hf : f_X10_start_221 M v0 v1 v2 v3 v4 v5 v6 v7 v8 = some res) (ko : (mm_o (h_X10_start_214 g M v0 v1 v2 v3 v4 v5 v6) (mm_o (h_X10_start_190 g v0 v1 v3 v5) (fun z => mm_q g 0 0 (some (mm_i z.1)) z.2))) res) : mm_X g 0 0 M 221 [(0, mm_r v0), (1, mm_i v1), (2, mm_i v2), (3, mm_i v3), (4, mm_i v4), (5, mm_i v5), (6, mm_i v6), (7, mm_i v7), (8, mm_i v8)] [] := by
  unfold f_X10_start_221 at hf
  refine xr_iload 223 7 C dX10_start_221 rfl rfl ?_
  refine xr_if_ne 242 226 C dX10_start_223 (by decide) rfl (fun hc => ?_) (fun hc => ?_)
  · replace hf := (if_neg hc).symm.trans hf
    refine xr_sub [0, 1, 2, 3, 4, 5, 6, 8] (lv2 := [(0, mm_r v0), (1, mm_i v1), (2, mm_i v2), (3, mm_i v3), (4, mm_i v4), (5, mm_i v5), (6, mm_i v6), (8, mm_i v8)]) rfl ?_
    exact w_X10_start_242 C hf ko
  · replace hf := (if_pos hc).symm.trans hf
    refine xr_sub [0, 1, 2, 3, 4, 5, 6, 8] (lv2 := [(0, mm_r v0), (1, mm_i v1), (2, mm_i v2), (3, mm_i v3), (4, mm_i v4), (5, mm_i v5), (6, mm_i v6), (8, mm_i v8)]) rfl ?_
    exact w_X10_start_226 C hf ko
noncomputable def f_X10_start_304 (M : mm_M) (v0 : Option Nat) (v1 : Int32) (v2 : Int32) (v3 : Int32) (v4 : Int32) (v5 : Int32) (v6 : Int32) (v7 : Int32) (v8 : Int32) : Option (Int32 ⊕ ((mm_M × Int32 × Int32 × Int32) ⊕ (Int32 × mm_M))) :=
  some (.inl (v8 + 1))
set_option maxRecDepth 20000 in
theorem w_X10_start_304 {g : mm_c} (C : mm_ok g cX10_start "LessonCardsModel" (some .int) "start" 9 5 118 0 0) {M : mm_M} {v0 : Option Nat} {v1 : Int32} {v2 : Int32} {v3 : Int32} {v4 : Int32} {v5 : Int32} {v6 : Int32} {v7 : Int32} {v8 : Int32} {res : Int32 ⊕ ((mm_M × Int32 × Int32 × Int32) ⊕ (Int32 × mm_M))} (hf : f_X10_start_304 M v0 v1 v2 v3 v4 v5 v6 v7 v8 = some res) (ko : (mm_o (h_X10_start_258 g M v0 v1 v2 v3 v4 v5 v6 v7) (mm_o (h_X10_start_190 g v0 v1 v3 v5) (fun z => mm_q g 0 0 (some (mm_i z.1)) z.2))) res) : mm_X g 0 0 M 304 [(0, mm_r v0), (1, mm_i v1), (2, mm_i v2), (3, mm_i v3), (4, mm_i v4), (5, mm_i v5), (6, mm_i v6), (7, mm_i v7), (8, mm_i v8)] [] := by
  unfold f_X10_start_304 at hf
  refine xr_iinc 307 8 C dX10_start_304 rfl (by decide) (v := 1) (by decide) rfl [(8, mm_i (v8 + 1)), (0, mm_r v0), (1, mm_i v1), (2, mm_i v2), (3, mm_i v3), (4, mm_i v4), (5, mm_i v5), (6, mm_i v6), (7, mm_i v7)] rfl ?_
  refine xr_goto 258 C dX10_start_307 (by decide) ?_
  refine xr_sub [1, 2, 3, 4, 5, 6, 7, 8, 0] (lv2 := [(0, mm_r v0), (1, mm_i v1), (2, mm_i v2), (3, mm_i v3), (4, mm_i v4), (5, mm_i v5), (6, mm_i v6), (7, mm_i v7), (8, mm_i (v8 + 1))]) rfl ?_
  obtain rfl := Option.some.inj hf
  exact ko
noncomputable def f_X10_start_365 (M : mm_M) (v0 : Option Nat) (v1 : Int32) (v2 : Int32) (v3 : Int32) (v4 : Int32) (v5 : Int32) (v6 : Int32) : Option ((mm_M × Int32 × Int32 × Int32) ⊕ (Int32 × mm_M)) :=
  some (.inl (M, v2, v4, (v6 + 1)))
set_option maxRecDepth 20000 in
theorem w_X10_start_365 {g : mm_c} (C : mm_ok g cX10_start "LessonCardsModel" (some .int) "start" 9 5 118 0 0) {M : mm_M} {v0 : Option Nat} {v1 : Int32} {v2 : Int32} {v3 : Int32} {v4 : Int32} {v5 : Int32} {v6 : Int32} {res : (mm_M × Int32 × Int32 × Int32) ⊕ (Int32 × mm_M)} (hf : f_X10_start_365 M v0 v1 v2 v3 v4 v5 v6 = some res) (ko : (mm_o (h_X10_start_190 g v0 v1 v3 v5) (fun z => mm_q g 0 0 (some (mm_i z.1)) z.2)) res) : mm_X g 0 0 M 365 [(0, mm_r v0), (1, mm_i v1), (2, mm_i v2), (3, mm_i v3), (4, mm_i v4), (5, mm_i v5), (6, mm_i v6)] [] := by
  unfold f_X10_start_365 at hf
  refine xr_iinc 368 6 C dX10_start_365 rfl (by decide) (v := 1) (by decide) rfl [(6, mm_i (v6 + 1)), (0, mm_r v0), (1, mm_i v1), (2, mm_i v2), (3, mm_i v3), (4, mm_i v4), (5, mm_i v5)] rfl ?_
  refine xr_goto 190 C dX10_start_368 (by decide) ?_
  refine xr_sub [1, 2, 3, 4, 5, 6, 0] (lv2 := [(0, mm_r v0), (1, mm_i v1), (2, mm_i v2), (3, mm_i v3), (4, mm_i v4), (5, mm_i v5), (6, mm_i (v6 + 1))]) rfl ?_
  obtain rfl := Option.some.inj hf
  exact ko
noncomputable def f_X10_start_344 (M : mm_M) (v0 : Option Nat) (v1 : Int32) (v2 : Int32) (v3 : Int32) (v4 : Int32) (v5 : Int32) (v6 : Int32) (v8 : Int32) : Option ((mm_M × Int32 × Int32 × Int32) ⊕ (Int32 × mm_M)) :=
  (mm_fR M v0 11 9).bind fun x345 =>
  (mm_tI M x345 (v3 + v2) ((4 * v6) + v8)).bind fun M358 =>
  f_X10_start_365 M358 v0 v1 (v2 + 1) v3 (v4 + 1) v5 v6
set_option maxRecDepth 20000 in
theorem w_X10_start_344 {g : mm_c} (C : mm_ok g cX10_start "LessonCardsModel" (some .int) "start" 9 5 118 0 0) {M : mm_M} {v0 : Option Nat} {v1 : Int32} {v2 : Int32} {v3 : Int32} {v4 : Int32} {v5 : Int32} {v6 : Int32} {v8 : Int32} {res : (mm_M × Int32 × Int32 × Int32) ⊕ (Int32 × mm_M)} (hf : f_X10_start_344 M v0 v1 v2 v3 v4 v5 v6 v8 = some res) (ko : (mm_o (h_X10_start_190 g v0 v1 v3 v5) (fun z => mm_q g 0 0 (some (mm_i z.1)) z.2)) res) : mm_X g 0 0 M 344 [(0, mm_r v0), (1, mm_i v1), (2, mm_i v2), (3, mm_i v3), (4, mm_i v4), (5, mm_i v5), (6, mm_i v6), (8, mm_i v8)] [] := by
  unfold f_X10_start_344 at hf
  refine xr_aload_n 345 0 C dX10_start_344 rfl rfl rfl ?_
  obtain ⟨x345, h345, hf⟩ := mm_bd_e hf
  refine xr_getR 348 C cf_X10_32 rfl h345 dX10_start_345 rfl ?_
  refine xr_iload_n 349 3 C dX10_start_348 rfl rfl rfl ?_
  refine xr_iload_n 350 2 C dX10_start_349 rfl rfl rfl ?_
  refine xr_iadd 351 C dX10_start_350 rfl ?_
  refine xr_iconst 352 C (v := 4) dX10_start_351 (by decide) rfl ?_
  refine xr_iload 354 6 C dX10_start_352 rfl rfl ?_
  refine xr_imul 355 C dX10_start_354 rfl ?_
  refine xr_iload 357 7 C dX10_start_355 rfl rfl ?_
  refine xr_iadd 358 C dX10_start_357 rfl ?_
  obtain ⟨M358, h358, hf⟩ := mm_bd_e hf
  refine xr_astI 359 C h358 dX10_start_358 rfl ?_
  refine xr_iinc 362 2 C dX10_start_359 rfl (by decide) (v := 1) (by decide) rfl [(2, mm_i (v2 + 1)), (0, mm_r v0), (1, mm_i v1), (3, mm_i v3), (4, mm_i v4), (5, mm_i v5), (6, mm_i v6), (8, mm_i v8)] rfl ?_
  refine xr_iinc 365 4 C dX10_start_362 rfl (by decide) (v := 1) (by decide) rfl [(4, mm_i (v4 + 1)), (2, mm_i (v2 + 1)), (0, mm_r v0), (1, mm_i v1), (3, mm_i v3), (5, mm_i v5), (6, mm_i v6), (8, mm_i v8)] rfl ?_
  refine xr_sub [2, 3, 1, 4, 0, 5, 6] (lv2 := [(0, mm_r v0), (1, mm_i v1), (2, mm_i (v2 + 1)), (3, mm_i v3), (4, mm_i (v4 + 1)), (5, mm_i v5), (6, mm_i v6)]) rfl ?_
  exact w_X10_start_365 C hf ko
noncomputable def f_X10_start_327 (M : mm_M) (v0 : Option Nat) (v1 : Int32) (v2 : Int32) (v3 : Int32) (v4 : Int32) (v5 : Int32) (v6 : Int32) (v8 : Int32) : Option ((mm_M × Int32 × Int32 × Int32) ⊕ (Int32 × mm_M)) :=
  (mm_rc M v0 11).bind fun u331 =>
  mm_b2 (f_X10_leanedOn M v0 v1 v6) fun x331 M331 =>
  (mm_fR M331 v0 11 2).bind fun x335 =>
  (mm_aI M331 x335 12 v6).bind fun x340 =>
  if x331 = x340 then f_X10_start_344 M331 v0 v1 v2 v3 v4 v5 v6 v8 else f_X10_start_365 M331 v0 v1 v2 v3 v4 v5 v6
set_option maxRecDepth 20000 in
theorem w_X10_start_327 {g : mm_c} (C : mm_ok g cX10_start "LessonCardsModel" (some .int) "start" 9 5 118 0 0) {M : mm_M} {v0 : Option Nat} {v1 : Int32} {v2 : Int32} {v3 : Int32} {v4 : Int32} {v5 : Int32} {v6 : Int32} {v8 : Int32} {res : (mm_M × Int32 × Int32 × Int32) ⊕ (Int32 × mm_M)} (hf : f_X10_start_327 M v0 v1 v2 v3 v4 v5 v6 v8 = some res) (ko : (mm_o (h_X10_start_190 g v0 v1 v3 v5) (fun z => mm_q g 0 0 (some (mm_i z.1)) z.2)) res) : mm_X g 0 0 M 327 [(0, mm_r v0), (1, mm_i v1), (2, mm_i v2), (3, mm_i v3), (4, mm_i v4), (5, mm_i v5), (6, mm_i v6), (8, mm_i v8)] [] := by
  unfold f_X10_start_327 at hf
  refine xr_aload_n 328 0 C dX10_start_327 rfl rfl rfl ?_
  refine xr_iload_n 329 1 C dX10_start_328 rfl rfl rfl ?_
  refine xr_iload 331 6 C dX10_start_329 rfl rfl ?_
  obtain ⟨u331, g331, hf⟩ := mm_bd_e hf
  obtain ⟨x331, M331, h331, hf⟩ := mm_b2_e hf
  refine xr_callV 334 C [mm_i v1, mm_i v6] cm_X10_203 (fun l G cy => c_X10_leanedOn l G cy h331) g331 rfl rfl ⟨⟨Nat.le_of_ble_eq_true rfl, Nat.le_of_ble_eq_true rfl⟩, (Nat.le_of_ble_eq_true rfl), (Nat.le_of_ble_eq_true rfl)⟩ (Nat.le_of_ble_eq_true rfl) dX10_start_331 rfl ?_
  refine xr_aload_n 335 0 C dX10_start_334 rfl rfl rfl ?_
  obtain ⟨x335, h335, hf⟩ := mm_bd_e hf
  refine xr_getR 338 C cf_X10_16 rfl h335 dX10_start_335 rfl ?_
  refine xr_iload 340 6 C dX10_start_338 rfl rfl ?_
  obtain ⟨x340, h340, hf⟩ := mm_bd_e hf
  refine xr_aldI 341 C h340 dX10_start_340 rfl ?_
  refine xr_icmp_ne 365 344 C dX10_start_341 (by decide) rfl (fun hc => ?_) (fun hc => ?_)
  · replace hf := (if_neg hc).symm.trans hf
    refine xr_sub [0, 1, 2, 3, 4, 5, 6] (lv2 := [(0, mm_r v0), (1, mm_i v1), (2, mm_i v2), (3, mm_i v3), (4, mm_i v4), (5, mm_i v5), (6, mm_i v6)]) rfl ?_
    exact w_X10_start_365 C hf ko
  · replace hf := (if_pos hc).symm.trans hf
    exact w_X10_start_344 C hf ko
noncomputable def f_X10_start_315 (M : mm_M) (v0 : Option Nat) (v1 : Int32) (v2 : Int32) (v3 : Int32) (v4 : Int32) (v5 : Int32) (v6 : Int32) (v8 : Int32) : Option ((mm_M × Int32 × Int32 × Int32) ⊕ (Int32 × mm_M)) :=
  (mm_fR M v0 11 0).bind fun x318 =>
  (mm_aI M x318 12 v6).bind fun x323 =>
  if x323 ≤ v8 then f_X10_start_365 M v0 v1 v2 v3 v4 v5 v6 else f_X10_start_327 M v0 v1 v2 v3 v4 v5 v6 v8
set_option maxRecDepth 20000 in
theorem w_X10_start_315 {g : mm_c} (C : mm_ok g cX10_start "LessonCardsModel" (some .int) "start" 9 5 118 0 0) {M : mm_M} {v0 : Option Nat} {v1 : Int32} {v2 : Int32} {v3 : Int32} {v4 : Int32} {v5 : Int32} {v6 : Int32} {v8 : Int32} {res : (mm_M × Int32 × Int32 × Int32) ⊕ (Int32 × mm_M)} (hf : f_X10_start_315 M v0 v1 v2 v3 v4 v5 v6 v8 = some res) (ko : (mm_o (h_X10_start_190 g v0 v1 v3 v5) (fun z => mm_q g 0 0 (some (mm_i z.1)) z.2)) res) : mm_X g 0 0 M 315 [(0, mm_r v0), (1, mm_i v1), (2, mm_i v2), (3, mm_i v3), (4, mm_i v4), (5, mm_i v5), (6, mm_i v6), (8, mm_i v8)] [] := by
  unfold f_X10_start_315 at hf
  refine xr_iload 317 7 C dX10_start_315 rfl rfl ?_
  refine xr_aload_n 318 0 C dX10_start_317 rfl rfl rfl ?_
  obtain ⟨x318, h318, hf⟩ := mm_bd_e hf
  refine xr_getR 321 C cf_X10_9 rfl h318 dX10_start_318 rfl ?_
  refine xr_iload 323 6 C dX10_start_321 rfl rfl ?_
  obtain ⟨x323, h323, hf⟩ := mm_bd_e hf
  refine xr_aldI 324 C h323 dX10_start_323 rfl ?_
  refine xr_icmp_ge 365 327 C dX10_start_324 (by decide) rfl (fun hc => ?_) (fun hc => ?_)
  · replace hf := (if_pos hc).symm.trans hf
    refine xr_sub [0, 1, 2, 3, 4, 5, 6] (lv2 := [(0, mm_r v0), (1, mm_i v1), (2, mm_i v2), (3, mm_i v3), (4, mm_i v4), (5, mm_i v5), (6, mm_i v6)]) rfl ?_
    exact w_X10_start_365 C hf ko
  · replace hf := (if_neg hc).symm.trans hf
    exact w_X10_start_327 C hf ko
noncomputable def f_X10_start_310 (M : mm_M) (v0 : Option Nat) (v1 : Int32) (v2 : Int32) (v3 : Int32) (v4 : Int32) (v5 : Int32) (v6 : Int32) (v7 : Int32) (v8 : Int32) : Option ((mm_M × Int32 × Int32 × Int32) ⊕ (Int32 × mm_M)) :=
  if v7 = 0 then f_X10_start_315 M v0 v1 v2 v3 v4 v5 v6 v8 else f_X10_start_365 M v0 v1 v2 v3 v4 v5 v6
set_option maxRecDepth 20000 in
theorem w_X10_start_310 {g : mm_c} (C : mm_ok g cX10_start "LessonCardsModel" (some .int) "start" 9 5 118 0 0) {M : mm_M} {v0 : Option Nat} {v1 : Int32} {v2 : Int32} {v3 : Int32} {v4 : Int32} {v5 : Int32} {v6 : Int32} {v7 : Int32} {v8 : Int32} {res : (mm_M × Int32 × Int32 × Int32) ⊕ (Int32 × mm_M)} (hf : f_X10_start_310 M v0 v1 v2 v3 v4 v5 v6 v7 v8 = some res) (ko : (mm_o (h_X10_start_190 g v0 v1 v3 v5) (fun z => mm_q g 0 0 (some (mm_i z.1)) z.2)) res) : mm_X g 0 0 M 310 [(0, mm_r v0), (1, mm_i v1), (2, mm_i v2), (3, mm_i v3), (4, mm_i v4), (5, mm_i v5), (6, mm_i v6), (7, mm_i v7), (8, mm_i v8)] [] := by
  unfold f_X10_start_310 at hf
  refine xr_iload 312 7 C dX10_start_310 rfl rfl ?_
  refine xr_if_ne 365 315 C dX10_start_312 (by decide) rfl (fun hc => ?_) (fun hc => ?_)
  · replace hf := (if_neg hc).symm.trans hf
    refine xr_sub [0, 1, 2, 3, 4, 5, 6] (lv2 := [(0, mm_r v0), (1, mm_i v1), (2, mm_i v2), (3, mm_i v3), (4, mm_i v4), (5, mm_i v5), (6, mm_i v6)]) rfl ?_
    exact w_X10_start_365 C hf ko
  · replace hf := (if_pos hc).symm.trans hf
    refine xr_sub [0, 1, 2, 3, 4, 5, 6, 8] (lv2 := [(0, mm_r v0), (1, mm_i v1), (2, mm_i v2), (3, mm_i v3), (4, mm_i v4), (5, mm_i v5), (6, mm_i v6), (8, mm_i v8)]) rfl ?_
    exact w_X10_start_315 C hf ko
noncomputable def f_X10_start_287 (M : mm_M) (v0 : Option Nat) (v1 : Int32) (v2 : Int32) (v3 : Int32) (v4 : Int32) (v5 : Int32) (v6 : Int32) (v7 : Int32) (v8 : Int32) : Option (Int32 ⊕ ((mm_M × Int32 × Int32 × Int32) ⊕ (Int32 × mm_M))) :=
  (mm_fR M v0 11 12).bind fun x288 =>
  (mm_aI M x288 14 ((v3 + (4 * v6)) + v8)).bind fun x300 =>
  if x300 = 0 then mm_mp (f_X10_start_310 M v0 v1 v2 v3 v4 v5 v6 v7 v8) else f_X10_start_304 M v0 v1 v2 v3 v4 v5 v6 v7 v8
set_option maxRecDepth 20000 in
theorem w_X10_start_287 {g : mm_c} (C : mm_ok g cX10_start "LessonCardsModel" (some .int) "start" 9 5 118 0 0) {M : mm_M} {v0 : Option Nat} {v1 : Int32} {v2 : Int32} {v3 : Int32} {v4 : Int32} {v5 : Int32} {v6 : Int32} {v7 : Int32} {v8 : Int32} {res : Int32 ⊕ ((mm_M × Int32 × Int32 × Int32) ⊕ (Int32 × mm_M))} (hf : f_X10_start_287 M v0 v1 v2 v3 v4 v5 v6 v7 v8 = some res) (ko : (mm_o (h_X10_start_258 g M v0 v1 v2 v3 v4 v5 v6 v7) (mm_o (h_X10_start_190 g v0 v1 v3 v5) (fun z => mm_q g 0 0 (some (mm_i z.1)) z.2))) res) : mm_X g 0 0 M 287 [(0, mm_r v0), (1, mm_i v1), (2, mm_i v2), (3, mm_i v3), (4, mm_i v4), (5, mm_i v5), (6, mm_i v6), (7, mm_i v7), (8, mm_i v8)] [] := by
  unfold f_X10_start_287 at hf
  refine xr_aload_n 288 0 C dX10_start_287 rfl rfl rfl ?_
  obtain ⟨x288, h288, hf⟩ := mm_bd_e hf
  refine xr_getR 291 C cf_X10_41 rfl h288 dX10_start_288 rfl ?_
  refine xr_iload_n 292 3 C dX10_start_291 rfl rfl rfl ?_
  refine xr_iconst 293 C (v := 4) dX10_start_292 (by decide) rfl ?_
  refine xr_iload 295 6 C dX10_start_293 rfl rfl ?_
  refine xr_imul 296 C dX10_start_295 rfl ?_
  refine xr_iadd 297 C dX10_start_296 rfl ?_
  refine xr_iload 299 8 C dX10_start_297 rfl rfl ?_
  refine xr_iadd 300 C dX10_start_299 rfl ?_
  obtain ⟨x300, h300, hf⟩ := mm_bd_e hf
  refine xr_aldZ 301 C h300 dX10_start_300 rfl ?_
  refine xr_if_eq 310 304 C dX10_start_301 (by decide) rfl (fun hc => ?_) (fun hc => ?_)
  · replace hf := (if_pos hc).symm.trans hf
    obtain ⟨z, hf2, rfl⟩ := mm_mp_e hf
    clear hf
    have hf := hf2
    clear hf2
    exact w_X10_start_310 C hf ko
  · replace hf := (if_neg hc).symm.trans hf
    exact w_X10_start_304 C hf ko
noncomputable def f_X10_start_270 (M : mm_M) (v0 : Option Nat) (v1 : Int32) (v2 : Int32) (v3 : Int32) (v4 : Int32) (v5 : Int32) (v6 : Int32) (v7 : Int32) (v8 : Int32) : Option (Int32 ⊕ ((mm_M × Int32 × Int32 × Int32) ⊕ (Int32 × mm_M))) :=
  (mm_fR M v0 11 13).bind fun x271 =>
  (mm_aI M x271 12 ((v3 + (4 * v6)) + v8)).bind fun x283 =>
  if 0 < x283 then f_X10_start_304 M v0 v1 v2 v3 v4 v5 v6 v7 v8 else f_X10_start_287 M v0 v1 v2 v3 v4 v5 v6 v7 v8
set_option maxRecDepth 20000 in
theorem w_X10_start_270 {g : mm_c} (C : mm_ok g cX10_start "LessonCardsModel" (some .int) "start" 9 5 118 0 0) {M : mm_M} {v0 : Option Nat} {v1 : Int32} {v2 : Int32} {v3 : Int32} {v4 : Int32} {v5 : Int32} {v6 : Int32} {v7 : Int32} {v8 : Int32} {res : Int32 ⊕ ((mm_M × Int32 × Int32 × Int32) ⊕ (Int32 × mm_M))} (hf : f_X10_start_270 M v0 v1 v2 v3 v4 v5 v6 v7 v8 = some res) (ko : (mm_o (h_X10_start_258 g M v0 v1 v2 v3 v4 v5 v6 v7) (mm_o (h_X10_start_190 g v0 v1 v3 v5) (fun z => mm_q g 0 0 (some (mm_i z.1)) z.2))) res) : mm_X g 0 0 M 270 [(0, mm_r v0), (1, mm_i v1), (2, mm_i v2), (3, mm_i v3), (4, mm_i v4), (5, mm_i v5), (6, mm_i v6), (7, mm_i v7), (8, mm_i v8)] [] := by
  unfold f_X10_start_270 at hf
  refine xr_aload_n 271 0 C dX10_start_270 rfl rfl rfl ?_
  obtain ⟨x271, h271, hf⟩ := mm_bd_e hf
  refine xr_getR 274 C cf_X10_45 rfl h271 dX10_start_271 rfl ?_
  refine xr_iload_n 275 3 C dX10_start_274 rfl rfl rfl ?_
  refine xr_iconst 276 C (v := 4) dX10_start_275 (by decide) rfl ?_
  refine xr_iload 278 6 C dX10_start_276 rfl rfl ?_
  refine xr_imul 279 C dX10_start_278 rfl ?_
  refine xr_iadd 280 C dX10_start_279 rfl ?_
  refine xr_iload 282 8 C dX10_start_280 rfl rfl ?_
  refine xr_iadd 283 C dX10_start_282 rfl ?_
  obtain ⟨x283, h283, hf⟩ := mm_bd_e hf
  refine xr_aldI 284 C h283 dX10_start_283 rfl ?_
  refine xr_if_gt 304 287 C dX10_start_284 (by decide) rfl (fun hc => ?_) (fun hc => ?_)
  · replace hf := (if_pos hc).symm.trans hf
    exact w_X10_start_304 C hf ko
  · replace hf := (if_neg hc).symm.trans hf
    exact w_X10_start_287 C hf ko
noncomputable def f_X10_start_258 (M : mm_M) (v0 : Option Nat) (v1 : Int32) (v2 : Int32) (v3 : Int32) (v4 : Int32) (v5 : Int32) (v6 : Int32) (v7 : Int32) (v8 : Int32) : Option (Int32 ⊕ ((mm_M × Int32 × Int32 × Int32) ⊕ (Int32 × mm_M))) :=
  (mm_fR M v0 11 0).bind fun x261 =>
  (mm_aI M x261 12 v6).bind fun x266 =>
  if x266 ≤ v8 then mm_mp (f_X10_start_310 M v0 v1 v2 v3 v4 v5 v6 v7 v8) else f_X10_start_270 M v0 v1 v2 v3 v4 v5 v6 v7 v8
set_option maxRecDepth 20000 in
theorem w_X10_start_258 {g : mm_c} (C : mm_ok g cX10_start "LessonCardsModel" (some .int) "start" 9 5 118 0 0) {M : mm_M} {v0 : Option Nat} {v1 : Int32} {v2 : Int32} {v3 : Int32} {v4 : Int32} {v5 : Int32} {v6 : Int32} {v7 : Int32} {v8 : Int32} {res : Int32 ⊕ ((mm_M × Int32 × Int32 × Int32) ⊕ (Int32 × mm_M))} (hf : f_X10_start_258 M v0 v1 v2 v3 v4 v5 v6 v7 v8 = some res) (ko : (mm_o (h_X10_start_258 g M v0 v1 v2 v3 v4 v5 v6 v7) (mm_o (h_X10_start_190 g v0 v1 v3 v5) (fun z => mm_q g 0 0 (some (mm_i z.1)) z.2))) res) : mm_X g 0 0 M 258 [(0, mm_r v0), (1, mm_i v1), (2, mm_i v2), (3, mm_i v3), (4, mm_i v4), (5, mm_i v5), (6, mm_i v6), (7, mm_i v7), (8, mm_i v8)] [] := by
  unfold f_X10_start_258 at hf
  refine xr_iload 260 8 C dX10_start_258 rfl rfl ?_
  refine xr_aload_n 261 0 C dX10_start_260 rfl rfl rfl ?_
  obtain ⟨x261, h261, hf⟩ := mm_bd_e hf
  refine xr_getR 264 C cf_X10_9 rfl h261 dX10_start_261 rfl ?_
  refine xr_iload 266 6 C dX10_start_264 rfl rfl ?_
  obtain ⟨x266, h266, hf⟩ := mm_bd_e hf
  refine xr_aldI 267 C h266 dX10_start_266 rfl ?_
  refine xr_icmp_ge 310 270 C dX10_start_267 (by decide) rfl (fun hc => ?_) (fun hc => ?_)
  · replace hf := (if_pos hc).symm.trans hf
    obtain ⟨z, hf2, rfl⟩ := mm_mp_e hf
    clear hf
    have hf := hf2
    clear hf2
    exact w_X10_start_310 C hf ko
  · replace hf := (if_neg hc).symm.trans hf
    exact w_X10_start_270 C hf ko
noncomputable def f_X10_start_258w (M : mm_M) (v0 : Option Nat) (v1 : Int32) (v2 : Int32) (v3 : Int32) (v4 : Int32) (v5 : Int32) (v6 : Int32) (v7 : Int32) (v8 : Int32) : Option ((mm_M × Int32 × Int32 × Int32) ⊕ (Int32 × mm_M)) := mm_w (fun x => f_X10_start_258 M v0 v1 v2 v3 v4 v5 v6 v7 x) v8
theorem l_X10_start_258 {g : mm_c} (C : mm_ok g cX10_start "LessonCardsModel" (some .int) "start" 9 5 118 0 0) {M : mm_M} {v0 : Option Nat} {v1 : Int32} {v2 : Int32} {v3 : Int32} {v4 : Int32} {v5 : Int32} {v6 : Int32} {v7 : Int32} {v8 : Int32} {res : (mm_M × Int32 × Int32 × Int32) ⊕ (Int32 × mm_M)} (hf : f_X10_start_258w M v0 v1 v2 v3 v4 v5 v6 v7 v8 = some res) (ko : (mm_o (h_X10_start_190 g v0 v1 v3 v5) (fun z => mm_q g 0 0 (some (mm_i z.1)) z.2)) res) : mm_X g 0 0 M 258 [(0, mm_r v0), (1, mm_i v1), (2, mm_i v2), (3, mm_i v3), (4, mm_i v4), (5, mm_i v5), (6, mm_i v6), (7, mm_i v7), (8, mm_i v8)] [] :=
  mm_w_W (body := fun x => f_X10_start_258 M v0 v1 v2 v3 v4 v5 v6 v7 x) (Wh := h_X10_start_258 g M v0 v1 v2 v3 v4 v5 v6 v7) (ok := (mm_o (h_X10_start_190 g v0 v1 v3 v5) (fun z => mm_q g 0 0 (some (mm_i z.1)) z.2))) (x := v8) (fun x r hb ho => w_X10_start_258 C hb ho) hf ko
noncomputable def f_X10_start_255 (M : mm_M) (v0 : Option Nat) (v1 : Int32) (v2 : Int32) (v3 : Int32) (v4 : Int32) (v5 : Int32) (v6 : Int32) (v7 : Int32) : Option ((mm_M × Int32 × Int32 × Int32) ⊕ (Int32 × mm_M)) :=
  f_X10_start_258w M v0 v1 v2 v3 v4 v5 v6 v7 0
set_option maxRecDepth 20000 in
theorem w_X10_start_255 {g : mm_c} (C : mm_ok g cX10_start "LessonCardsModel" (some .int) "start" 9 5 118 0 0) {M : mm_M} {v0 : Option Nat} {v1 : Int32} {v2 : Int32} {v3 : Int32} {v4 : Int32} {v5 : Int32} {v6 : Int32} {v7 : Int32} {res : (mm_M × Int32 × Int32 × Int32) ⊕ (Int32 × mm_M)} (hf : f_X10_start_255 M v0 v1 v2 v3 v4 v5 v6 v7 = some res) (ko : (mm_o (h_X10_start_190 g v0 v1 v3 v5) (fun z => mm_q g 0 0 (some (mm_i z.1)) z.2)) res) : mm_X g 0 0 M 255 [(0, mm_r v0), (1, mm_i v1), (2, mm_i v2), (3, mm_i v3), (4, mm_i v4), (5, mm_i v5), (6, mm_i v6), (7, mm_i v7)] [] := by
  unfold f_X10_start_255 at hf
  refine xr_iconst 256 C (v := 0) dX10_start_255 (by decide) rfl ?_
  refine xr_istore 258 C dX10_start_256 (by decide) rfl [(8, mm_i 0), (0, mm_r v0), (1, mm_i v1), (2, mm_i v2), (3, mm_i v3), (4, mm_i v4), (5, mm_i v5), (6, mm_i v6), (7, mm_i v7)] rfl ?_
  refine xr_sub [1, 2, 3, 4, 5, 6, 7, 8, 0] (lv2 := [(0, mm_r v0), (1, mm_i v1), (2, mm_i v2), (3, mm_i v3), (4, mm_i v4), (5, mm_i v5), (6, mm_i v6), (7, mm_i v7), (8, mm_i 0)]) rfl ?_
  exact l_X10_start_258 C hf ko
noncomputable def f_X10_start_214 (M : mm_M) (v0 : Option Nat) (v1 : Int32) (v2 : Int32) (v3 : Int32) (v4 : Int32) (v5 : Int32) (v6 : Int32) (v7 : Int32) (v8 : Int32) : Option ((Int32 × Int32) ⊕ ((mm_M × Int32 × Int32 × Int32) ⊕ (Int32 × mm_M))) :=
  if v5 ≤ v8 then mm_mp (f_X10_start_255 M v0 v1 v2 v3 v4 v5 v6 v7) else f_X10_start_221 M v0 v1 v2 v3 v4 v5 v6 v7 v8
set_option maxRecDepth 20000 in
theorem w_X10_start_214 {g : mm_c} (C : mm_ok g cX10_start "LessonCardsModel" (some .int) "start" 9 5 118 0 0) {M : mm_M} {v0 : Option Nat} {v1 : Int32} {v2 : Int32} {v3 : Int32} {v4 : Int32} {v5 : Int32} {v6 : Int32} {v7 : Int32} {v8 : Int32} {res : (Int32 × Int32) ⊕ ((mm_M × Int32 × Int32 × Int32) ⊕ (Int32 × mm_M))} (hf : f_X10_start_214 M v0 v1 v2 v3 v4 v5 v6 v7 v8 = some res) (ko : (mm_o (h_X10_start_214 g M v0 v1 v2 v3 v4 v5 v6) (mm_o (h_X10_start_190 g v0 v1 v3 v5) (fun z => mm_q g 0 0 (some (mm_i z.1)) z.2))) res) : mm_X g 0 0 M 214 [(0, mm_r v0), (1, mm_i v1), (2, mm_i v2), (3, mm_i v3), (4, mm_i v4), (5, mm_i v5), (6, mm_i v6), (7, mm_i v7), (8, mm_i v8)] [] := by
  unfold f_X10_start_214 at hf
  refine xr_iload 216 8 C dX10_start_214 rfl rfl ?_
  refine xr_iload 218 5 C dX10_start_216 rfl rfl ?_
  refine xr_icmp_ge 255 221 C dX10_start_218 (by decide) rfl (fun hc => ?_) (fun hc => ?_)
  · replace hf := (if_pos hc).symm.trans hf
    refine xr_sub [0, 1, 2, 3, 4, 5, 6, 7] (lv2 := [(0, mm_r v0), (1, mm_i v1), (2, mm_i v2), (3, mm_i v3), (4, mm_i v4), (5, mm_i v5), (6, mm_i v6), (7, mm_i v7)]) rfl ?_
    obtain ⟨z, hf2, rfl⟩ := mm_mp_e hf
    clear hf
    have hf := hf2
    clear hf2
    exact w_X10_start_255 C hf ko
  · replace hf := (if_neg hc).symm.trans hf
    exact w_X10_start_221 C hf ko
noncomputable def f_X10_start_214w (M : mm_M) (v0 : Option Nat) (v1 : Int32) (v2 : Int32) (v3 : Int32) (v4 : Int32) (v5 : Int32) (v6 : Int32) (v7 : Int32) (v8 : Int32) : Option ((mm_M × Int32 × Int32 × Int32) ⊕ (Int32 × mm_M)) := mm_w (fun x => f_X10_start_214 M v0 v1 v2 v3 v4 v5 v6 x.1 x.2) (v7, v8)
theorem l_X10_start_214 {g : mm_c} (C : mm_ok g cX10_start "LessonCardsModel" (some .int) "start" 9 5 118 0 0) {M : mm_M} {v0 : Option Nat} {v1 : Int32} {v2 : Int32} {v3 : Int32} {v4 : Int32} {v5 : Int32} {v6 : Int32} {v7 : Int32} {v8 : Int32} {res : (mm_M × Int32 × Int32 × Int32) ⊕ (Int32 × mm_M)} (hf : f_X10_start_214w M v0 v1 v2 v3 v4 v5 v6 v7 v8 = some res) (ko : (mm_o (h_X10_start_190 g v0 v1 v3 v5) (fun z => mm_q g 0 0 (some (mm_i z.1)) z.2)) res) : mm_X g 0 0 M 214 [(0, mm_r v0), (1, mm_i v1), (2, mm_i v2), (3, mm_i v3), (4, mm_i v4), (5, mm_i v5), (6, mm_i v6), (7, mm_i v7), (8, mm_i v8)] [] :=
  mm_w_W (body := fun x => f_X10_start_214 M v0 v1 v2 v3 v4 v5 v6 x.1 x.2) (Wh := h_X10_start_214 g M v0 v1 v2 v3 v4 v5 v6) (ok := (mm_o (h_X10_start_190 g v0 v1 v3 v5) (fun z => mm_q g 0 0 (some (mm_i z.1)) z.2))) (x := (v7, v8)) (fun x r hb ho => w_X10_start_214 C hb ho) hf ko
noncomputable def f_X10_start_208 (M : mm_M) (v0 : Option Nat) (v1 : Int32) (v2 : Int32) (v3 : Int32) (v4 : Int32) (v5 : Int32) (v6 : Int32) : Option ((mm_M × Int32 × Int32 × Int32) ⊕ (Int32 × mm_M)) :=
  f_X10_start_214w M v0 v1 v2 v3 v4 v5 v6 0 0
set_option maxRecDepth 20000 in
theorem w_X10_start_208 {g : mm_c} (C : mm_ok g cX10_start "LessonCardsModel" (some .int) "start" 9 5 118 0 0) {M : mm_M} {v0 : Option Nat} {v1 : Int32} {v2 : Int32} {v3 : Int32} {v4 : Int32} {v5 : Int32} {v6 : Int32} {res : (mm_M × Int32 × Int32 × Int32) ⊕ (Int32 × mm_M)} (hf : f_X10_start_208 M v0 v1 v2 v3 v4 v5 v6 = some res) (ko : (mm_o (h_X10_start_190 g v0 v1 v3 v5) (fun z => mm_q g 0 0 (some (mm_i z.1)) z.2)) res) : mm_X g 0 0 M 208 [(0, mm_r v0), (1, mm_i v1), (2, mm_i v2), (3, mm_i v3), (4, mm_i v4), (5, mm_i v5), (6, mm_i v6)] [] := by
  unfold f_X10_start_208 at hf
  refine xr_iconst 209 C (v := 0) dX10_start_208 (by decide) rfl ?_
  refine xr_istore 211 C dX10_start_209 (by decide) rfl [(7, mm_i 0), (0, mm_r v0), (1, mm_i v1), (2, mm_i v2), (3, mm_i v3), (4, mm_i v4), (5, mm_i v5), (6, mm_i v6)] rfl ?_
  refine xr_iconst 212 C (v := 0) dX10_start_211 (by decide) rfl ?_
  refine xr_istore 214 C dX10_start_212 (by decide) rfl [(8, mm_i 0), (7, mm_i 0), (0, mm_r v0), (1, mm_i v1), (2, mm_i v2), (3, mm_i v3), (4, mm_i v4), (5, mm_i v5), (6, mm_i v6)] rfl ?_
  refine xr_sub [2, 3, 4, 5, 6, 7, 8, 1, 0] (lv2 := [(0, mm_r v0), (1, mm_i v1), (2, mm_i v2), (3, mm_i v3), (4, mm_i v4), (5, mm_i v5), (6, mm_i v6), (7, mm_i 0), (8, mm_i 0)]) rfl ?_
  exact l_X10_start_214 C hf ko
noncomputable def f_X10_start_371 (M : mm_M) (v0 : Option Nat) (v1 : Int32) (v2 : Int32) : Option (Int32 × mm_M) :=
  (mm_fR M v0 11 10).bind fun x372 =>
  (mm_tI M x372 v1 v2).bind fun M377 =>
  some (v2, M377)
set_option maxRecDepth 20000 in
theorem w_X10_start_371 {g : mm_c} (C : mm_ok g cX10_start "LessonCardsModel" (some .int) "start" 9 5 118 0 0) {M : mm_M} {v0 : Option Nat} {v1 : Int32} {v2 : Int32} {res : Int32 × mm_M} (hf : f_X10_start_371 M v0 v1 v2 = some res) (ko : (fun z => mm_q g 0 0 (some (mm_i z.1)) z.2) res) : mm_X g 0 0 M 371 [(0, mm_r v0), (1, mm_i v1), (2, mm_i v2)] [] := by
  unfold f_X10_start_371 at hf
  refine xr_aload_n 372 0 C dX10_start_371 rfl rfl rfl ?_
  obtain ⟨x372, h372, hf⟩ := mm_bd_e hf
  refine xr_getR 375 C cf_X10_35 rfl h372 dX10_start_372 rfl ?_
  refine xr_iload_n 376 1 C dX10_start_375 rfl rfl rfl ?_
  refine xr_iload_n 377 2 C dX10_start_376 rfl rfl rfl ?_
  obtain ⟨M377, h377, hf⟩ := mm_bd_e hf
  refine xr_astI 378 C h377 dX10_start_377 rfl ?_
  refine xr_iload_n 379 2 C dX10_start_378 rfl rfl rfl ?_
  obtain rfl := Option.some.inj hf
  exact xr_iret C ko ⟨(Nat.le_of_ble_eq_true rfl), (Nat.le_of_ble_eq_true rfl)⟩ dX10_start_379
noncomputable def f_X10_start_199 (M : mm_M) (v0 : Option Nat) (v1 : Int32) (v2 : Int32) (v3 : Int32) (v4 : Int32) (v5 : Int32) (v6 : Int32) : Option ((mm_M × Int32 × Int32 × Int32) ⊕ (Int32 × mm_M)) :=
  (mm_fI M v0 11 7).bind fun x202 =>
  if x202 ≤ v4 then mm_mp (f_X10_start_371 M v0 v1 v2) else f_X10_start_208 M v0 v1 v2 v3 v4 v5 v6
set_option maxRecDepth 20000 in
theorem w_X10_start_199 {g : mm_c} (C : mm_ok g cX10_start "LessonCardsModel" (some .int) "start" 9 5 118 0 0) {M : mm_M} {v0 : Option Nat} {v1 : Int32} {v2 : Int32} {v3 : Int32} {v4 : Int32} {v5 : Int32} {v6 : Int32} {res : (mm_M × Int32 × Int32 × Int32) ⊕ (Int32 × mm_M)} (hf : f_X10_start_199 M v0 v1 v2 v3 v4 v5 v6 = some res) (ko : (mm_o (h_X10_start_190 g v0 v1 v3 v5) (fun z => mm_q g 0 0 (some (mm_i z.1)) z.2)) res) : mm_X g 0 0 M 199 [(0, mm_r v0), (1, mm_i v1), (2, mm_i v2), (3, mm_i v3), (4, mm_i v4), (5, mm_i v5), (6, mm_i v6)] [] := by
  unfold f_X10_start_199 at hf
  refine xr_iload 201 4 C dX10_start_199 rfl rfl ?_
  refine xr_aload_n 202 0 C dX10_start_201 rfl rfl rfl ?_
  obtain ⟨x202, h202, hf⟩ := mm_bd_e hf
  refine xr_getI 205 C cf_X10_26 rfl h202 dX10_start_202 rfl ?_
  refine xr_icmp_ge 371 208 C dX10_start_205 (by decide) rfl (fun hc => ?_) (fun hc => ?_)
  · replace hf := (if_pos hc).symm.trans hf
    refine xr_sub [0, 1, 2] (lv2 := [(0, mm_r v0), (1, mm_i v1), (2, mm_i v2)]) rfl ?_
    obtain ⟨z, hf2, rfl⟩ := mm_mp_e hf
    clear hf
    have hf := hf2
    clear hf2
    exact w_X10_start_371 C hf ko
  · replace hf := (if_neg hc).symm.trans hf
    exact w_X10_start_208 C hf ko
noncomputable def f_X10_start_190 (M : mm_M) (v0 : Option Nat) (v1 : Int32) (v2 : Int32) (v3 : Int32) (v4 : Int32) (v5 : Int32) (v6 : Int32) : Option ((mm_M × Int32 × Int32 × Int32) ⊕ (Int32 × mm_M)) :=
  (mm_fI M v0 11 3).bind fun x193 =>
  if x193 ≤ v6 then mm_mp (f_X10_start_371 M v0 v1 v2) else f_X10_start_199 M v0 v1 v2 v3 v4 v5 v6
set_option maxRecDepth 20000 in
theorem w_X10_start_190 {g : mm_c} (C : mm_ok g cX10_start "LessonCardsModel" (some .int) "start" 9 5 118 0 0) {M : mm_M} {v0 : Option Nat} {v1 : Int32} {v2 : Int32} {v3 : Int32} {v4 : Int32} {v5 : Int32} {v6 : Int32} {res : (mm_M × Int32 × Int32 × Int32) ⊕ (Int32 × mm_M)} (hf : f_X10_start_190 M v0 v1 v2 v3 v4 v5 v6 = some res) (ko : (mm_o (h_X10_start_190 g v0 v1 v3 v5) (fun z => mm_q g 0 0 (some (mm_i z.1)) z.2)) res) : mm_X g 0 0 M 190 [(0, mm_r v0), (1, mm_i v1), (2, mm_i v2), (3, mm_i v3), (4, mm_i v4), (5, mm_i v5), (6, mm_i v6)] [] := by
  unfold f_X10_start_190 at hf
  refine xr_iload 192 6 C dX10_start_190 rfl rfl ?_
  refine xr_aload_n 193 0 C dX10_start_192 rfl rfl rfl ?_
  obtain ⟨x193, h193, hf⟩ := mm_bd_e hf
  refine xr_getI 196 C cf_X10_116 rfl h193 dX10_start_193 rfl ?_
  refine xr_icmp_ge 371 199 C dX10_start_196 (by decide) rfl (fun hc => ?_) (fun hc => ?_)
  · replace hf := (if_pos hc).symm.trans hf
    refine xr_sub [0, 1, 2] (lv2 := [(0, mm_r v0), (1, mm_i v1), (2, mm_i v2)]) rfl ?_
    obtain ⟨z, hf2, rfl⟩ := mm_mp_e hf
    clear hf
    have hf := hf2
    clear hf2
    exact w_X10_start_371 C hf ko
  · replace hf := (if_neg hc).symm.trans hf
    exact w_X10_start_199 C hf ko
noncomputable def f_X10_start_190w (M : mm_M) (v0 : Option Nat) (v1 : Int32) (v2 : Int32) (v3 : Int32) (v4 : Int32) (v5 : Int32) (v6 : Int32) : Option (Int32 × mm_M) := mm_w (fun x => f_X10_start_190 x.1 v0 v1 x.2.1 v3 x.2.2.1 v5 x.2.2.2) (M, v2, v4, v6)
theorem l_X10_start_190 {g : mm_c} (C : mm_ok g cX10_start "LessonCardsModel" (some .int) "start" 9 5 118 0 0) {M : mm_M} {v0 : Option Nat} {v1 : Int32} {v2 : Int32} {v3 : Int32} {v4 : Int32} {v5 : Int32} {v6 : Int32} {res : Int32 × mm_M} (hf : f_X10_start_190w M v0 v1 v2 v3 v4 v5 v6 = some res) (ko : (fun z => mm_q g 0 0 (some (mm_i z.1)) z.2) res) : mm_X g 0 0 M 190 [(0, mm_r v0), (1, mm_i v1), (2, mm_i v2), (3, mm_i v3), (4, mm_i v4), (5, mm_i v5), (6, mm_i v6)] [] :=
  mm_w_W (body := fun x => f_X10_start_190 x.1 v0 v1 x.2.1 v3 x.2.2.1 v5 x.2.2.2) (Wh := h_X10_start_190 g v0 v1 v3 v5) (ok := (fun z => mm_q g 0 0 (some (mm_i z.1)) z.2)) (x := (M, v2, v4, v6)) (fun x r hb ho => w_X10_start_190 C hb ho) hf ko
noncomputable def f_X10_start_180 (M : mm_M) (v0 : Option Nat) (v1 : Int32) (v3 : Int32) (s0 : Int32) : Option (Int32 × mm_M) :=
  f_X10_start_190w M v0 v1 s0 v3 0 s0 0
set_option maxRecDepth 20000 in
theorem w_X10_start_180 {g : mm_c} (C : mm_ok g cX10_start "LessonCardsModel" (some .int) "start" 9 5 118 0 0) {M : mm_M} {v0 : Option Nat} {v1 : Int32} {v3 : Int32} {s0 : Int32} {res : Int32 × mm_M} (hf : f_X10_start_180 M v0 v1 v3 s0 = some res) (ko : (fun z => mm_q g 0 0 (some (mm_i z.1)) z.2) res) : mm_X g 0 0 M 180 [(0, mm_r v0), (1, mm_i v1), (3, mm_i v3)] [mm_i s0] := by
  unfold f_X10_start_180 at hf
  refine xr_istore_n 181 C dX10_start_180 rfl (by decide) rfl [(2, mm_i s0), (0, mm_r v0), (1, mm_i v1), (3, mm_i v3)] rfl ?_
  refine xr_iconst 182 C (v := 0) dX10_start_181 (by decide) rfl ?_
  refine xr_istore 184 C dX10_start_182 (by decide) rfl [(4, mm_i 0), (2, mm_i s0), (0, mm_r v0), (1, mm_i v1), (3, mm_i v3)] rfl ?_
  refine xr_iload_n 185 1 C dX10_start_184 rfl rfl rfl ?_
  refine xr_istore 187 C dX10_start_185 (by decide) rfl [(5, mm_i s0), (4, mm_i 0), (2, mm_i s0), (0, mm_r v0), (1, mm_i v1), (3, mm_i v3)] rfl ?_
  refine xr_iconst 188 C (v := 0) dX10_start_187 (by decide) rfl ?_
  refine xr_istore 190 C dX10_start_188 (by decide) rfl [(6, mm_i 0), (5, mm_i s0), (4, mm_i 0), (2, mm_i s0), (0, mm_r v0), (1, mm_i v1), (3, mm_i v3)] rfl ?_
  refine xr_sub [4, 5, 3, 6, 2, 1, 0] (lv2 := [(0, mm_r v0), (1, mm_i v1), (2, mm_i s0), (3, mm_i v3), (4, mm_i 0), (5, mm_i s0), (6, mm_i 0)]) rfl ?_
  exact l_X10_start_190 C hf ko
noncomputable def f_X10_start_172 (M : mm_M) (v0 : Option Nat) (v1 : Int32) (v2 : Int32) (v3 : Int32) : Option (Int32 × mm_M) :=
  f_X10_start_180 M v0 v1 v3 v2
set_option maxRecDepth 20000 in
theorem w_X10_start_172 {g : mm_c} (C : mm_ok g cX10_start "LessonCardsModel" (some .int) "start" 9 5 118 0 0) {M : mm_M} {v0 : Option Nat} {v1 : Int32} {v2 : Int32} {v3 : Int32} {res : Int32 × mm_M} (hf : f_X10_start_172 M v0 v1 v2 v3 = some res) (ko : (fun z => mm_q g 0 0 (some (mm_i z.1)) z.2) res) : mm_X g 0 0 M 172 [(0, mm_r v0), (1, mm_i v1), (2, mm_i v2), (3, mm_i v3)] [] := by
  unfold f_X10_start_172 at hf
  refine xr_iload_n 173 2 C dX10_start_172 rfl rfl rfl ?_
  refine xr_goto 180 C dX10_start_173 (by decide) ?_
  refine xr_sub [0, 1, 3] (lv2 := [(0, mm_r v0), (1, mm_i v1), (3, mm_i v3)]) rfl ?_
  exact w_X10_start_180 C hf ko
noncomputable def f_X10_start_176 (M : mm_M) (v0 : Option Nat) (v1 : Int32) (v3 : Int32) : Option (Int32 × mm_M) :=
  (mm_fI M v0 11 6).bind fun x177 =>
  f_X10_start_180 M v0 v1 v3 x177
set_option maxRecDepth 20000 in
theorem w_X10_start_176 {g : mm_c} (C : mm_ok g cX10_start "LessonCardsModel" (some .int) "start" 9 5 118 0 0) {M : mm_M} {v0 : Option Nat} {v1 : Int32} {v3 : Int32} {res : Int32 × mm_M} (hf : f_X10_start_176 M v0 v1 v3 = some res) (ko : (fun z => mm_q g 0 0 (some (mm_i z.1)) z.2) res) : mm_X g 0 0 M 176 [(0, mm_r v0), (1, mm_i v1), (3, mm_i v3)] [] := by
  unfold f_X10_start_176 at hf
  refine xr_aload_n 177 0 C dX10_start_176 rfl rfl rfl ?_
  obtain ⟨x177, h177, hf⟩ := mm_bd_e hf
  refine xr_getI 180 C cf_X10_22 rfl h177 dX10_start_177 rfl ?_
  exact w_X10_start_180 C hf ko
noncomputable def f_X10_start_164 (M : mm_M) (v0 : Option Nat) (v1 : Int32) (v2 : Int32) (v3 : Int32) : Option (Int32 × mm_M) :=
  (mm_fI M v0 11 6).bind fun x166 =>
  if x166 ≤ v2 then f_X10_start_176 M v0 v1 v3 else f_X10_start_172 M v0 v1 v2 v3
set_option maxRecDepth 20000 in
theorem w_X10_start_164 {g : mm_c} (C : mm_ok g cX10_start "LessonCardsModel" (some .int) "start" 9 5 118 0 0) {M : mm_M} {v0 : Option Nat} {v1 : Int32} {v2 : Int32} {v3 : Int32} {res : Int32 × mm_M} (hf : f_X10_start_164 M v0 v1 v2 v3 = some res) (ko : (fun z => mm_q g 0 0 (some (mm_i z.1)) z.2) res) : mm_X g 0 0 M 164 [(0, mm_r v0), (1, mm_i v1), (2, mm_i v2), (3, mm_i v3)] [] := by
  unfold f_X10_start_164 at hf
  refine xr_iload_n 165 2 C dX10_start_164 rfl rfl rfl ?_
  refine xr_aload_n 166 0 C dX10_start_165 rfl rfl rfl ?_
  obtain ⟨x166, h166, hf⟩ := mm_bd_e hf
  refine xr_getI 169 C cf_X10_22 rfl h166 dX10_start_166 rfl ?_
  refine xr_icmp_ge 176 172 C dX10_start_169 (by decide) rfl (fun hc => ?_) (fun hc => ?_)
  · replace hf := (if_pos hc).symm.trans hf
    refine xr_sub [0, 1, 3] (lv2 := [(0, mm_r v0), (1, mm_i v1), (3, mm_i v3)]) rfl ?_
    exact w_X10_start_176 C hf ko
  · replace hf := (if_neg hc).symm.trans hf
    exact w_X10_start_172 C hf ko
noncomputable def f_X10_start_32 (M : mm_M) (v0 : Option Nat) (v1 : Int32) (v2 : Int32) (v3 : Int32) (v4 : Int32) : Option ((mm_M × Int32 × Int32) ⊕ (Int32 × mm_M)) :=
  (mm_fI M v0 11 3).bind fun x35 =>
  if x35 ≤ v4 then mm_mp (f_X10_start_164 M v0 v1 v2 v3) else f_X10_start_41 M v0 v1 v2 v3 v4
set_option maxRecDepth 20000 in
theorem w_X10_start_32 {g : mm_c} (C : mm_ok g cX10_start "LessonCardsModel" (some .int) "start" 9 5 118 0 0) {M : mm_M} {v0 : Option Nat} {v1 : Int32} {v2 : Int32} {v3 : Int32} {v4 : Int32} {res : (mm_M × Int32 × Int32) ⊕ (Int32 × mm_M)} (hf : f_X10_start_32 M v0 v1 v2 v3 v4 = some res) (ko : (mm_o (h_X10_start_32 g v0 v1 v3) (fun z => mm_q g 0 0 (some (mm_i z.1)) z.2)) res) : mm_X g 0 0 M 32 [(0, mm_r v0), (1, mm_i v1), (2, mm_i v2), (3, mm_i v3), (4, mm_i v4)] [] := by
  unfold f_X10_start_32 at hf
  refine xr_iload 34 4 C dX10_start_32 rfl rfl ?_
  refine xr_aload_n 35 0 C dX10_start_34 rfl rfl rfl ?_
  obtain ⟨x35, h35, hf⟩ := mm_bd_e hf
  refine xr_getI 38 C cf_X10_116 rfl h35 dX10_start_35 rfl ?_
  refine xr_icmp_ge 164 41 C dX10_start_38 (by decide) rfl (fun hc => ?_) (fun hc => ?_)
  · replace hf := (if_pos hc).symm.trans hf
    refine xr_sub [0, 1, 2, 3] (lv2 := [(0, mm_r v0), (1, mm_i v1), (2, mm_i v2), (3, mm_i v3)]) rfl ?_
    obtain ⟨z, hf2, rfl⟩ := mm_mp_e hf
    clear hf
    have hf := hf2
    clear hf2
    exact w_X10_start_164 C hf ko
  · replace hf := (if_neg hc).symm.trans hf
    exact w_X10_start_41 C hf ko
noncomputable def f_X10_start_32w (M : mm_M) (v0 : Option Nat) (v1 : Int32) (v2 : Int32) (v3 : Int32) (v4 : Int32) : Option (Int32 × mm_M) := mm_w (fun x => f_X10_start_32 x.1 v0 v1 x.2.1 v3 x.2.2) (M, v2, v4)
theorem l_X10_start_32 {g : mm_c} (C : mm_ok g cX10_start "LessonCardsModel" (some .int) "start" 9 5 118 0 0) {M : mm_M} {v0 : Option Nat} {v1 : Int32} {v2 : Int32} {v3 : Int32} {v4 : Int32} {res : Int32 × mm_M} (hf : f_X10_start_32w M v0 v1 v2 v3 v4 = some res) (ko : (fun z => mm_q g 0 0 (some (mm_i z.1)) z.2) res) : mm_X g 0 0 M 32 [(0, mm_r v0), (1, mm_i v1), (2, mm_i v2), (3, mm_i v3), (4, mm_i v4)] [] :=
  mm_w_W (body := fun x => f_X10_start_32 x.1 v0 v1 x.2.1 v3 x.2.2) (Wh := h_X10_start_32 g v0 v1 v3) (ok := (fun z => mm_q g 0 0 (some (mm_i z.1)) z.2)) (x := (M, v2, v4)) (fun x r hb ho => w_X10_start_32 C hb ho) hf ko
noncomputable def f_X10_start_21 (M : mm_M) (v0 : Option Nat) (v1 : Int32) : Option (Int32 × mm_M) :=
  f_X10_start_32w M v0 v1 0 (v1 * 480) 0
set_option maxRecDepth 20000 in
theorem w_X10_start_21 {g : mm_c} (C : mm_ok g cX10_start "LessonCardsModel" (some .int) "start" 9 5 118 0 0) {M : mm_M} {v0 : Option Nat} {v1 : Int32} {res : Int32 × mm_M} (hf : f_X10_start_21 M v0 v1 = some res) (ko : (fun z => mm_q g 0 0 (some (mm_i z.1)) z.2) res) : mm_X g 0 0 M 21 [(0, mm_r v0), (1, mm_i v1)] [] := by
  unfold f_X10_start_21 at hf
  refine xr_iconst 22 C (v := 0) dX10_start_21 (by decide) rfl ?_
  refine xr_istore_n 23 C dX10_start_22 rfl (by decide) rfl [(2, mm_i 0), (0, mm_r v0), (1, mm_i v1)] rfl ?_
  refine xr_iload_n 24 2 C dX10_start_23 rfl rfl rfl ?_
  refine xr_sipush 27 C (v := 480) dX10_start_24 (by decide) rfl ?_
  refine xr_imul 28 C dX10_start_27 rfl ?_
  refine xr_istore_n 29 C dX10_start_28 rfl (by decide) rfl [(3, mm_i (v1 * 480)), (2, mm_i 0), (0, mm_r v0), (1, mm_i v1)] rfl ?_
  refine xr_iconst 30 C (v := 0) dX10_start_29 (by decide) rfl ?_
  refine xr_istore 32 C dX10_start_30 (by decide) rfl [(4, mm_i 0), (3, mm_i (v1 * 480)), (2, mm_i 0), (0, mm_r v0), (1, mm_i v1)] rfl ?_
  refine xr_sub [3, 4, 2, 1, 0] (lv2 := [(0, mm_r v0), (1, mm_i v1), (2, mm_i 0), (3, mm_i (v1 * 480)), (4, mm_i 0)]) rfl ?_
  exact l_X10_start_32 C hf ko
noncomputable def f_X10_start_9 (M : mm_M) (v0 : Option Nat) (v1 : Int32) : Option (Int32 × mm_M) :=
  (mm_fR M v0 11 10).bind fun x10 =>
  (mm_aI M x10 12 v1).bind fun x14 =>
  if x14 ≤ 0 then f_X10_start_21 M v0 v1 else f_X10_start_18 M
set_option maxRecDepth 20000 in
theorem w_X10_start_9 {g : mm_c} (C : mm_ok g cX10_start "LessonCardsModel" (some .int) "start" 9 5 118 0 0) {M : mm_M} {v0 : Option Nat} {v1 : Int32} {res : Int32 × mm_M} (hf : f_X10_start_9 M v0 v1 = some res) (ko : (fun z => mm_q g 0 0 (some (mm_i z.1)) z.2) res) : mm_X g 0 0 M 9 [(0, mm_r v0), (1, mm_i v1)] [] := by
  unfold f_X10_start_9 at hf
  refine xr_aload_n 10 0 C dX10_start_9 rfl rfl rfl ?_
  obtain ⟨x10, h10, hf⟩ := mm_bd_e hf
  refine xr_getR 13 C cf_X10_35 rfl h10 dX10_start_10 rfl ?_
  refine xr_iload_n 14 1 C dX10_start_13 rfl rfl rfl ?_
  obtain ⟨x14, h14, hf⟩ := mm_bd_e hf
  refine xr_aldI 15 C h14 dX10_start_14 rfl ?_
  refine xr_if_le 21 18 C dX10_start_15 (by decide) rfl (fun hc => ?_) (fun hc => ?_)
  · replace hf := (if_pos hc).symm.trans hf
    exact w_X10_start_21 C hf ko
  · replace hf := (if_neg hc).symm.trans hf
    refine xr_sub [] (lv2 := []) rfl ?_
    exact w_X10_start_18 C hf ko
noncomputable def f_X10_start_0 (M : mm_M) (v0 : Option Nat) (v1 : Int32) : Option (Int32 × mm_M) :=
  (f_X10_isPupil M v1).bind fun x1 =>
  if x1 = 0 then f_X10_start_7 M else f_X10_start_9 M v0 v1
set_option maxRecDepth 20000 in
theorem w_X10_start_0 {g : mm_c} (C : mm_ok g cX10_start "LessonCardsModel" (some .int) "start" 9 5 118 0 0) {M : mm_M} {v0 : Option Nat} {v1 : Int32} {res : Int32 × mm_M} (hf : f_X10_start_0 M v0 v1 = some res) (ko : (fun z => mm_q g 0 0 (some (mm_i z.1)) z.2) res) : mm_X g 0 0 M 0 [(0, mm_r v0), (1, mm_i v1)] [] := by
  unfold f_X10_start_0 at hf
  refine xr_iload_n 1 1 C dX10_start_0 rfl rfl rfl ?_
  obtain ⟨x1, h1, hf⟩ := mm_bd_e hf
  refine xr_callS 4 C [mm_i v1] cm_X10_190 (fun l G cy => c_X10_isPupil l G cy h1) rfl rfl ⟨⟨Nat.le_of_ble_eq_true rfl, Nat.le_of_ble_eq_true rfl⟩, (Nat.le_of_ble_eq_true rfl), (Nat.le_of_ble_eq_true rfl)⟩ (Nat.le_of_ble_eq_true rfl) dX10_start_1 rfl ?_
  refine xr_if_ne 9 7 C dX10_start_4 (by decide) rfl (fun hc => ?_) (fun hc => ?_)
  · replace hf := (if_neg hc).symm.trans hf
    exact w_X10_start_9 C hf ko
  · replace hf := (if_pos hc).symm.trans hf
    refine xr_sub [] (lv2 := []) rfl ?_
    exact w_X10_start_7 C hf ko
noncomputable def f_X10_start (M : mm_M) (v0 : Option Nat) (v1 : Int32) : Option (Int32 × mm_M) := f_X10_start_0 M v0 v1
theorem c_X10_start (l : Launch) (G : va_G) (cy : Nat → ClassId) {M : mm_M} {v0 : Option Nat} {v1 : Int32} {r : Int32} {M1 : mm_M} (hf : f_X10_start M v0 v1 = some (r, M1)) : mm_Met l yX10_start cX10_start 9 (some .int) 5 118 0 0 G cy [mm_r v0, mm_i v1] M (some (mm_i r)) M1 :=
  mm_enter (by decide) (Nat.le_of_ble_eq_true rfl) (fun p e R s m args below meth c Q C hq => xr_sub [0, 1] (lv2 := [(0, mm_r v0), (1, mm_i v1)]) rfl (w_X10_start_0 C hf hq))
noncomputable def f_X10_next_35 (M : mm_M) (s0 : Int32) : Option (Int32) :=
  some s0
set_option maxRecDepth 20000 in
theorem w_X10_next_35 {g : mm_c} (C : mm_ok g cX10_next "LessonCardsModel" (some .int) "next" 2 1 20 0 0) {M : mm_M} {s0 : Int32} {res : Int32} (hf : f_X10_next_35 M s0 = some res) (ko : (fun z => mm_q g 0 0 (some (mm_i z)) M) res) : mm_X g 0 0 M 35 [] [mm_i s0] := by
  unfold f_X10_next_35 at hf
  obtain rfl := Option.some.inj hf
  exact xr_iret C ko ⟨(Nat.le_of_ble_eq_true rfl), (Nat.le_of_ble_eq_true rfl)⟩ dX10_next_35
noncomputable def f_X10_next_7 (M : mm_M) : Option (Int32) :=
  f_X10_next_35 M (-1)
set_option maxRecDepth 20000 in
theorem w_X10_next_7 {g : mm_c} (C : mm_ok g cX10_next "LessonCardsModel" (some .int) "next" 2 1 20 0 0) {M : mm_M} {res : Int32} (hf : f_X10_next_7 M = some res) (ko : (fun z => mm_q g 0 0 (some (mm_i z)) M) res) : mm_X g 0 0 M 7 [] [] := by
  unfold f_X10_next_7 at hf
  refine xr_iconst 8 C (v := (-1)) dX10_next_7 (by decide) rfl ?_
  refine xr_goto 35 C dX10_next_8 (by decide) ?_
  exact w_X10_next_35 C hf ko
noncomputable def f_X10_next_20 (M : mm_M) : Option (Int32) :=
  f_X10_next_35 M (-4)
set_option maxRecDepth 20000 in
theorem w_X10_next_20 {g : mm_c} (C : mm_ok g cX10_next "LessonCardsModel" (some .int) "next" 2 1 20 0 0) {M : mm_M} {res : Int32} (hf : f_X10_next_20 M = some res) (ko : (fun z => mm_q g 0 0 (some (mm_i z)) M) res) : mm_X g 0 0 M 20 [] [] := by
  unfold f_X10_next_20 at hf
  refine xr_bipush 22 C (v := (-4)) dX10_next_20 (by decide) rfl ?_
  refine xr_goto 35 C dX10_next_22 (by decide) ?_
  exact w_X10_next_35 C hf ko
noncomputable def f_X10_next_25 (M : mm_M) (v0 : Option Nat) (v1 : Int32) : Option (Int32) :=
  (mm_fR M v0 11 9).bind fun x26 =>
  (mm_aI M x26 12 (v1 * 480)).bind fun x34 =>
  f_X10_next_35 M x34
set_option maxRecDepth 20000 in
theorem w_X10_next_25 {g : mm_c} (C : mm_ok g cX10_next "LessonCardsModel" (some .int) "next" 2 1 20 0 0) {M : mm_M} {v0 : Option Nat} {v1 : Int32} {res : Int32} (hf : f_X10_next_25 M v0 v1 = some res) (ko : (fun z => mm_q g 0 0 (some (mm_i z)) M) res) : mm_X g 0 0 M 25 [(0, mm_r v0), (1, mm_i v1)] [] := by
  unfold f_X10_next_25 at hf
  refine xr_aload_n 26 0 C dX10_next_25 rfl rfl rfl ?_
  obtain ⟨x26, h26, hf⟩ := mm_bd_e hf
  refine xr_getR 29 C cf_X10_32 rfl h26 dX10_next_26 rfl ?_
  refine xr_iload_n 30 1 C dX10_next_29 rfl rfl rfl ?_
  refine xr_sipush 33 C (v := 480) dX10_next_30 (by decide) rfl ?_
  refine xr_imul 34 C dX10_next_33 rfl ?_
  obtain ⟨x34, h34, hf⟩ := mm_bd_e hf
  refine xr_aldI 35 C h34 dX10_next_34 rfl ?_
  refine xr_sub [] (lv2 := []) rfl ?_
  exact w_X10_next_35 C hf ko
noncomputable def f_X10_next_11 (M : mm_M) (v0 : Option Nat) (v1 : Int32) : Option (Int32) :=
  (mm_fR M v0 11 10).bind fun x12 =>
  (mm_aI M x12 12 v1).bind fun x16 =>
  if x16 = 0 then f_X10_next_20 M else f_X10_next_25 M v0 v1
set_option maxRecDepth 20000 in
theorem w_X10_next_11 {g : mm_c} (C : mm_ok g cX10_next "LessonCardsModel" (some .int) "next" 2 1 20 0 0) {M : mm_M} {v0 : Option Nat} {v1 : Int32} {res : Int32} (hf : f_X10_next_11 M v0 v1 = some res) (ko : (fun z => mm_q g 0 0 (some (mm_i z)) M) res) : mm_X g 0 0 M 11 [(0, mm_r v0), (1, mm_i v1)] [] := by
  unfold f_X10_next_11 at hf
  refine xr_aload_n 12 0 C dX10_next_11 rfl rfl rfl ?_
  obtain ⟨x12, h12, hf⟩ := mm_bd_e hf
  refine xr_getR 15 C cf_X10_35 rfl h12 dX10_next_12 rfl ?_
  refine xr_iload_n 16 1 C dX10_next_15 rfl rfl rfl ?_
  obtain ⟨x16, h16, hf⟩ := mm_bd_e hf
  refine xr_aldI 17 C h16 dX10_next_16 rfl ?_
  refine xr_if_ne 25 20 C dX10_next_17 (by decide) rfl (fun hc => ?_) (fun hc => ?_)
  · replace hf := (if_neg hc).symm.trans hf
    exact w_X10_next_25 C hf ko
  · replace hf := (if_pos hc).symm.trans hf
    refine xr_sub [] (lv2 := []) rfl ?_
    exact w_X10_next_20 C hf ko
noncomputable def f_X10_next_0 (M : mm_M) (v0 : Option Nat) (v1 : Int32) : Option (Int32) :=
  (f_X10_isPupil M v1).bind fun x1 =>
  if x1 = 0 then f_X10_next_7 M else f_X10_next_11 M v0 v1
set_option maxRecDepth 20000 in
theorem w_X10_next_0 {g : mm_c} (C : mm_ok g cX10_next "LessonCardsModel" (some .int) "next" 2 1 20 0 0) {M : mm_M} {v0 : Option Nat} {v1 : Int32} {res : Int32} (hf : f_X10_next_0 M v0 v1 = some res) (ko : (fun z => mm_q g 0 0 (some (mm_i z)) M) res) : mm_X g 0 0 M 0 [(0, mm_r v0), (1, mm_i v1)] [] := by
  unfold f_X10_next_0 at hf
  refine xr_iload_n 1 1 C dX10_next_0 rfl rfl rfl ?_
  obtain ⟨x1, h1, hf⟩ := mm_bd_e hf
  refine xr_callS 4 C [mm_i v1] cm_X10_190 (fun l G cy => c_X10_isPupil l G cy h1) rfl rfl ⟨⟨Nat.le_of_ble_eq_true rfl, Nat.le_of_ble_eq_true rfl⟩, (Nat.le_of_ble_eq_true rfl), (Nat.le_of_ble_eq_true rfl)⟩ (Nat.le_of_ble_eq_true rfl) dX10_next_1 rfl ?_
  refine xr_if_ne 11 7 C dX10_next_4 (by decide) rfl (fun hc => ?_) (fun hc => ?_)
  · replace hf := (if_neg hc).symm.trans hf
    exact w_X10_next_11 C hf ko
  · replace hf := (if_pos hc).symm.trans hf
    refine xr_sub [] (lv2 := []) rfl ?_
    exact w_X10_next_7 C hf ko
noncomputable def f_X10_next (M : mm_M) (v0 : Option Nat) (v1 : Int32) : Option (Int32) := f_X10_next_0 M v0 v1
theorem c_X10_next (l : Launch) (G : va_G) (cy : Nat → ClassId) {M : mm_M} {v0 : Option Nat} {v1 : Int32} {r : Int32} (hf : f_X10_next M v0 v1 = some r) : mm_Met l yX10_next cX10_next 2 (some .int) 1 20 0 0 G cy [mm_r v0, mm_i v1] M (some (mm_i r)) M :=
  mm_enter (by decide) (Nat.le_of_ble_eq_true rfl) (fun p e R s m args below meth c Q C hq => xr_sub [0, 1] (lv2 := [(0, mm_r v0), (1, mm_i v1)]) rfl (w_X10_next_0 C hf hq))
def h_X10_dropFirst_12 (g : mm_c) (v0 : Option Nat) (v1 : Int32) : (mm_M × Int32) → Prop := fun x => mm_X g 0 0 x.1 12 [(0, mm_r v0), (1, mm_i v1), (2, mm_i x.2)] []
noncomputable def f_X10_dropFirst_22 (M : mm_M) (v0 : Option Nat) (v1 : Int32) (v2 : Int32) : Option ((mm_M × Int32) ⊕ (mm_M)) :=
  (mm_fR M v0 11 9).bind fun x23 =>
  (mm_fR M v0 11 9).bind fun x34 =>
  (mm_aI M x34 12 (((v1 * 480) + v2) + 1)).bind fun x46 =>
  (mm_tI M x23 ((v1 * 480) + v2) x46).bind fun M47 =>
  some (.inl (M47, (v2 + 1)))
set_option maxRecDepth 20000 in
theorem w_X10_dropFirst_22 {g : mm_c} (C : mm_ok g cX10_dropFirst "LessonCardsModel" none "dropFirst" 3 0 0 0 0) {M : mm_M} {v0 : Option Nat} {v1 : Int32} {v2 : Int32} {res : (mm_M × Int32) ⊕ (mm_M)} (hf : f_X10_dropFirst_22 M v0 v1 v2 = some res) (ko : (mm_o (h_X10_dropFirst_12 g v0 v1) (fun z => mm_q g 0 0 none z)) res) : mm_X g 0 0 M 22 [(0, mm_r v0), (1, mm_i v1), (2, mm_i v2)] [] := by
  unfold f_X10_dropFirst_22 at hf
  refine xr_aload_n 23 0 C dX10_dropFirst_22 rfl rfl rfl ?_
  obtain ⟨x23, h23, hf⟩ := mm_bd_e hf
  refine xr_getR 26 C cf_X10_32 rfl h23 dX10_dropFirst_23 rfl ?_
  refine xr_iload_n 27 1 C dX10_dropFirst_26 rfl rfl rfl ?_
  refine xr_sipush 30 C (v := 480) dX10_dropFirst_27 (by decide) rfl ?_
  refine xr_imul 31 C dX10_dropFirst_30 rfl ?_
  refine xr_iload_n 32 2 C dX10_dropFirst_31 rfl rfl rfl ?_
  refine xr_iadd 33 C dX10_dropFirst_32 rfl ?_
  refine xr_aload_n 34 0 C dX10_dropFirst_33 rfl rfl rfl ?_
  obtain ⟨x34, h34, hf⟩ := mm_bd_e hf
  refine xr_getR 37 C cf_X10_32 rfl h34 dX10_dropFirst_34 rfl ?_
  refine xr_iload_n 38 1 C dX10_dropFirst_37 rfl rfl rfl ?_
  refine xr_sipush 41 C (v := 480) dX10_dropFirst_38 (by decide) rfl ?_
  refine xr_imul 42 C dX10_dropFirst_41 rfl ?_
  refine xr_iload_n 43 2 C dX10_dropFirst_42 rfl rfl rfl ?_
  refine xr_iadd 44 C dX10_dropFirst_43 rfl ?_
  refine xr_iconst 45 C (v := 1) dX10_dropFirst_44 (by decide) rfl ?_
  refine xr_iadd 46 C dX10_dropFirst_45 rfl ?_
  obtain ⟨x46, h46, hf⟩ := mm_bd_e hf
  refine xr_aldI 47 C h46 dX10_dropFirst_46 rfl ?_
  obtain ⟨M47, h47, hf⟩ := mm_bd_e hf
  refine xr_astI 48 C h47 dX10_dropFirst_47 rfl ?_
  refine xr_iinc 51 2 C dX10_dropFirst_48 rfl (by decide) (v := 1) (by decide) rfl [(2, mm_i (v2 + 1)), (0, mm_r v0), (1, mm_i v1)] rfl ?_
  refine xr_goto 12 C dX10_dropFirst_51 (by decide) ?_
  refine xr_sub [1, 2, 0] (lv2 := [(0, mm_r v0), (1, mm_i v1), (2, mm_i (v2 + 1))]) rfl ?_
  obtain rfl := Option.some.inj hf
  exact ko
noncomputable def f_X10_dropFirst_54 (M : mm_M) : Option (mm_M) :=
  some M
set_option maxRecDepth 20000 in
theorem w_X10_dropFirst_54 {g : mm_c} (C : mm_ok g cX10_dropFirst "LessonCardsModel" none "dropFirst" 3 0 0 0 0) {M : mm_M} {res : mm_M} (hf : f_X10_dropFirst_54 M = some res) (ko : (fun z => mm_q g 0 0 none z) res) : mm_X g 0 0 M 54 [] [] := by
  unfold f_X10_dropFirst_54 at hf
  obtain rfl := Option.some.inj hf
  exact xr_vret C ko ⟨(Nat.le_of_ble_eq_true rfl), (Nat.le_of_ble_eq_true rfl)⟩ dX10_dropFirst_54
noncomputable def f_X10_dropFirst_12 (M : mm_M) (v0 : Option Nat) (v1 : Int32) (v2 : Int32) : Option ((mm_M × Int32) ⊕ (mm_M)) :=
  (mm_fR M v0 11 10).bind fun x14 =>
  (mm_aI M x14 12 v1).bind fun x18 =>
  if x18 ≤ v2 then mm_mp (f_X10_dropFirst_54 M) else f_X10_dropFirst_22 M v0 v1 v2
set_option maxRecDepth 20000 in
theorem w_X10_dropFirst_12 {g : mm_c} (C : mm_ok g cX10_dropFirst "LessonCardsModel" none "dropFirst" 3 0 0 0 0) {M : mm_M} {v0 : Option Nat} {v1 : Int32} {v2 : Int32} {res : (mm_M × Int32) ⊕ (mm_M)} (hf : f_X10_dropFirst_12 M v0 v1 v2 = some res) (ko : (mm_o (h_X10_dropFirst_12 g v0 v1) (fun z => mm_q g 0 0 none z)) res) : mm_X g 0 0 M 12 [(0, mm_r v0), (1, mm_i v1), (2, mm_i v2)] [] := by
  unfold f_X10_dropFirst_12 at hf
  refine xr_iload_n 13 2 C dX10_dropFirst_12 rfl rfl rfl ?_
  refine xr_aload_n 14 0 C dX10_dropFirst_13 rfl rfl rfl ?_
  obtain ⟨x14, h14, hf⟩ := mm_bd_e hf
  refine xr_getR 17 C cf_X10_35 rfl h14 dX10_dropFirst_14 rfl ?_
  refine xr_iload_n 18 1 C dX10_dropFirst_17 rfl rfl rfl ?_
  obtain ⟨x18, h18, hf⟩ := mm_bd_e hf
  refine xr_aldI 19 C h18 dX10_dropFirst_18 rfl ?_
  refine xr_icmp_ge 54 22 C dX10_dropFirst_19 (by decide) rfl (fun hc => ?_) (fun hc => ?_)
  · replace hf := (if_pos hc).symm.trans hf
    refine xr_sub [] (lv2 := []) rfl ?_
    obtain ⟨z, hf2, rfl⟩ := mm_mp_e hf
    clear hf
    have hf := hf2
    clear hf2
    exact w_X10_dropFirst_54 C hf ko
  · replace hf := (if_neg hc).symm.trans hf
    exact w_X10_dropFirst_22 C hf ko
noncomputable def f_X10_dropFirst_12w (M : mm_M) (v0 : Option Nat) (v1 : Int32) (v2 : Int32) : Option (mm_M) := mm_w (fun x => f_X10_dropFirst_12 x.1 v0 v1 x.2) (M, v2)
theorem l_X10_dropFirst_12 {g : mm_c} (C : mm_ok g cX10_dropFirst "LessonCardsModel" none "dropFirst" 3 0 0 0 0) {M : mm_M} {v0 : Option Nat} {v1 : Int32} {v2 : Int32} {res : mm_M} (hf : f_X10_dropFirst_12w M v0 v1 v2 = some res) (ko : (fun z => mm_q g 0 0 none z) res) : mm_X g 0 0 M 12 [(0, mm_r v0), (1, mm_i v1), (2, mm_i v2)] [] :=
  mm_w_W (body := fun x => f_X10_dropFirst_12 x.1 v0 v1 x.2) (Wh := h_X10_dropFirst_12 g v0 v1) (ok := (fun z => mm_q g 0 0 none z)) (x := (M, v2)) (fun x r hb ho => w_X10_dropFirst_12 C hb ho) hf ko
noncomputable def f_X10_dropFirst_0 (M : mm_M) (v0 : Option Nat) (v1 : Int32) : Option (mm_M) :=
  (mm_fR M v0 11 10).bind fun x1 =>
  (mm_aI M x1 12 v1).bind fun x6 =>
  (mm_tI M x1 v1 (x6 - 1)).bind fun M9 =>
  f_X10_dropFirst_12w M9 v0 v1 0
set_option maxRecDepth 20000 in
theorem w_X10_dropFirst_0 {g : mm_c} (C : mm_ok g cX10_dropFirst "LessonCardsModel" none "dropFirst" 3 0 0 0 0) {M : mm_M} {v0 : Option Nat} {v1 : Int32} {res : mm_M} (hf : f_X10_dropFirst_0 M v0 v1 = some res) (ko : (fun z => mm_q g 0 0 none z) res) : mm_X g 0 0 M 0 [(0, mm_r v0), (1, mm_i v1)] [] := by
  unfold f_X10_dropFirst_0 at hf
  refine xr_aload_n 1 0 C dX10_dropFirst_0 rfl rfl rfl ?_
  obtain ⟨x1, h1, hf⟩ := mm_bd_e hf
  refine xr_getR 4 C cf_X10_35 rfl h1 dX10_dropFirst_1 rfl ?_
  refine xr_iload_n 5 1 C dX10_dropFirst_4 rfl rfl rfl ?_
  refine xr_dup2_11 6 C dX10_dropFirst_5 rfl rfl rfl ?_
  obtain ⟨x6, h6, hf⟩ := mm_bd_e hf
  refine xr_aldI 7 C h6 dX10_dropFirst_6 rfl ?_
  refine xr_iconst 8 C (v := 1) dX10_dropFirst_7 (by decide) rfl ?_
  refine xr_isub 9 C dX10_dropFirst_8 rfl ?_
  obtain ⟨M9, h9, hf⟩ := mm_bd_e hf
  refine xr_astI 10 C h9 dX10_dropFirst_9 rfl ?_
  refine xr_iconst 11 C (v := 0) dX10_dropFirst_10 (by decide) rfl ?_
  refine xr_istore_n 12 C dX10_dropFirst_11 rfl (by decide) rfl [(2, mm_i 0), (0, mm_r v0), (1, mm_i v1)] rfl ?_
  refine xr_sub [1, 2, 0] (lv2 := [(0, mm_r v0), (1, mm_i v1), (2, mm_i 0)]) rfl ?_
  exact l_X10_dropFirst_12 C hf ko
noncomputable def f_X10_dropFirst (M : mm_M) (v0 : Option Nat) (v1 : Int32) : Option (mm_M) := f_X10_dropFirst_0 M v0 v1
theorem c_X10_dropFirst (l : Launch) (G : va_G) (cy : Nat → ClassId) {M : mm_M} {v0 : Option Nat} {v1 : Int32} {M1 : mm_M} (hf : f_X10_dropFirst M v0 v1 = some M1) : mm_Met l yX10_dropFirst cX10_dropFirst 3 none 0 0 0 0 G cy [mm_r v0, mm_i v1] M none M1 :=
  mm_enter (by decide) (Nat.le_of_ble_eq_true rfl) (fun p e R s m args below meth c Q C hq => xr_sub [0, 1] (lv2 := [(0, mm_r v0), (1, mm_i v1)]) rfl (w_X10_dropFirst_0 C hf hq))
noncomputable def f_X10_give_0 (M : mm_M) (v0 : Option Nat) (v1 : Int32) : Option (mm_M) :=
  (mm_fR M v0 11 13).bind fun x1 =>
  (mm_fI M v0 11 29).bind fun x6 =>
  (mm_tI M x1 v1 x6).bind fun M9 =>
  (mm_fR M9 v0 11 14).bind fun x11 =>
  (mm_fI M9 v0 11 30).bind fun x16 =>
  (mm_tI M9 x11 v1 x16).bind fun M19 =>
  (mm_fR M19 v0 11 15).bind fun x21 =>
  (mm_fI M19 v0 11 31).bind fun x26 =>
  (mm_tI M19 x21 v1 x26).bind fun M29 =>
  (mm_fR M29 v0 11 16).bind fun x31 =>
  (mm_fI M29 v0 11 32).bind fun x36 =>
  (mm_tI M29 x31 v1 x36).bind fun M39 =>
  (mm_fR M39 v0 11 17).bind fun x41 =>
  (mm_fI M39 v0 11 33).bind fun x46 =>
  (mm_tI M39 x41 v1 x46).bind fun M49 =>
  some M49
set_option maxRecDepth 20000 in
theorem w_X10_give_0 {g : mm_c} (C : mm_ok g cX10_give "LessonCardsModel" none "give" 2 0 0 0 0) {M : mm_M} {v0 : Option Nat} {v1 : Int32} {res : mm_M} (hf : f_X10_give_0 M v0 v1 = some res) (ko : (fun z => mm_q g 0 0 none z) res) : mm_X g 0 0 M 0 [(0, mm_r v0), (1, mm_i v1)] [] := by
  unfold f_X10_give_0 at hf
  refine xr_aload_n 1 0 C dX10_give_0 rfl rfl rfl ?_
  obtain ⟨x1, h1, hf⟩ := mm_bd_e hf
  refine xr_getR 4 C cf_X10_45 rfl h1 dX10_give_1 rfl ?_
  refine xr_iload_n 5 1 C dX10_give_4 rfl rfl rfl ?_
  refine xr_aload_n 6 0 C dX10_give_5 rfl rfl rfl ?_
  obtain ⟨x6, h6, hf⟩ := mm_bd_e hf
  refine xr_getI 9 C cf_X10_135 rfl h6 dX10_give_6 rfl ?_
  obtain ⟨M9, h9, hf⟩ := mm_bd_e hf
  refine xr_astI 10 C h9 dX10_give_9 rfl ?_
  refine xr_aload_n 11 0 C dX10_give_10 rfl rfl rfl ?_
  obtain ⟨x11, h11, hf⟩ := mm_bd_e hf
  refine xr_getR 14 C cf_X10_48 rfl h11 dX10_give_11 rfl ?_
  refine xr_iload_n 15 1 C dX10_give_14 rfl rfl rfl ?_
  refine xr_aload_n 16 0 C dX10_give_15 rfl rfl rfl ?_
  obtain ⟨x16, h16, hf⟩ := mm_bd_e hf
  refine xr_getI 19 C cf_X10_138 rfl h16 dX10_give_16 rfl ?_
  obtain ⟨M19, h19, hf⟩ := mm_bd_e hf
  refine xr_astI 20 C h19 dX10_give_19 rfl ?_
  refine xr_aload_n 21 0 C dX10_give_20 rfl rfl rfl ?_
  obtain ⟨x21, h21, hf⟩ := mm_bd_e hf
  refine xr_getR 24 C cf_X10_51 rfl h21 dX10_give_21 rfl ?_
  refine xr_iload_n 25 1 C dX10_give_24 rfl rfl rfl ?_
  refine xr_aload_n 26 0 C dX10_give_25 rfl rfl rfl ?_
  obtain ⟨x26, h26, hf⟩ := mm_bd_e hf
  refine xr_getI 29 C cf_X10_141 rfl h26 dX10_give_26 rfl ?_
  obtain ⟨M29, h29, hf⟩ := mm_bd_e hf
  refine xr_astI 30 C h29 dX10_give_29 rfl ?_
  refine xr_aload_n 31 0 C dX10_give_30 rfl rfl rfl ?_
  obtain ⟨x31, h31, hf⟩ := mm_bd_e hf
  refine xr_getR 34 C cf_X10_54 rfl h31 dX10_give_31 rfl ?_
  refine xr_iload_n 35 1 C dX10_give_34 rfl rfl rfl ?_
  refine xr_aload_n 36 0 C dX10_give_35 rfl rfl rfl ?_
  obtain ⟨x36, h36, hf⟩ := mm_bd_e hf
  refine xr_getI 39 C cf_X10_144 rfl h36 dX10_give_36 rfl ?_
  obtain ⟨M39, h39, hf⟩ := mm_bd_e hf
  refine xr_astI 40 C h39 dX10_give_39 rfl ?_
  refine xr_aload_n 41 0 C dX10_give_40 rfl rfl rfl ?_
  obtain ⟨x41, h41, hf⟩ := mm_bd_e hf
  refine xr_getR 44 C cf_X10_57 rfl h41 dX10_give_41 rfl ?_
  refine xr_iload_n 45 1 C dX10_give_44 rfl rfl rfl ?_
  refine xr_aload_n 46 0 C dX10_give_45 rfl rfl rfl ?_
  obtain ⟨x46, h46, hf⟩ := mm_bd_e hf
  refine xr_getI 49 C cf_X10_147 rfl h46 dX10_give_46 rfl ?_
  obtain ⟨M49, h49, hf⟩ := mm_bd_e hf
  refine xr_astI 50 C h49 dX10_give_49 rfl ?_
  obtain rfl := Option.some.inj hf
  exact xr_vret C ko ⟨(Nat.le_of_ble_eq_true rfl), (Nat.le_of_ble_eq_true rfl)⟩ dX10_give_50
noncomputable def f_X10_give (M : mm_M) (v0 : Option Nat) (v1 : Int32) : Option (mm_M) := f_X10_give_0 M v0 v1
theorem c_X10_give (l : Launch) (G : va_G) (cy : Nat → ClassId) {M : mm_M} {v0 : Option Nat} {v1 : Int32} {M1 : mm_M} (hf : f_X10_give M v0 v1 = some M1) : mm_Met l yX10_give cX10_give 2 none 0 0 0 0 G cy [mm_r v0, mm_i v1] M none M1 :=
  mm_enter (by decide) (Nat.le_of_ble_eq_true rfl) (fun p e R s m args below meth c Q C hq => xr_sub [0, 1] (lv2 := [(0, mm_r v0), (1, mm_i v1)]) rfl (w_X10_give_0 C hf hq))
noncomputable def f_X10_answer_16 (M : mm_M) : Option (Int32 × mm_M) :=
  some ((-1), M)
set_option maxRecDepth 20000 in
theorem w_X10_answer_16 {g : mm_c} (C : mm_ok g cX10_answer "LessonCardsModel" (some .int) "answer" 5 3 76 0 0) {M : mm_M} {res : Int32 × mm_M} (hf : f_X10_answer_16 M = some res) (ko : (fun z => mm_q g 0 0 (some (mm_i z.1)) z.2) res) : mm_X g 0 0 M 16 [] [] := by
  unfold f_X10_answer_16 at hf
  refine xr_iconst 17 C (v := (-1)) dX10_answer_16 (by decide) rfl ?_
  obtain rfl := Option.some.inj hf
  exact xr_iret C ko ⟨(Nat.le_of_ble_eq_true rfl), (Nat.le_of_ble_eq_true rfl)⟩ dX10_answer_17
noncomputable def f_X10_answer_27 (M : mm_M) : Option (Int32 × mm_M) :=
  some ((-4), M)
set_option maxRecDepth 20000 in
theorem w_X10_answer_27 {g : mm_c} (C : mm_ok g cX10_answer "LessonCardsModel" (some .int) "answer" 5 3 76 0 0) {M : mm_M} {res : Int32 × mm_M} (hf : f_X10_answer_27 M = some res) (ko : (fun z => mm_q g 0 0 (some (mm_i z.1)) z.2) res) : mm_X g 0 0 M 27 [] [] := by
  unfold f_X10_answer_27 at hf
  refine xr_bipush 29 C (v := (-4)) dX10_answer_27 (by decide) rfl ?_
  obtain rfl := Option.some.inj hf
  exact xr_iret C ko ⟨(Nat.le_of_ble_eq_true rfl), (Nat.le_of_ble_eq_true rfl)⟩ dX10_answer_29
noncomputable def f_X10_answer_40 (M : mm_M) : Option (Int32 × mm_M) :=
  some ((-2), M)
set_option maxRecDepth 20000 in
theorem w_X10_answer_40 {g : mm_c} (C : mm_ok g cX10_answer "LessonCardsModel" (some .int) "answer" 5 3 76 0 0) {M : mm_M} {res : Int32 × mm_M} (hf : f_X10_answer_40 M = some res) (ko : (fun z => mm_q g 0 0 (some (mm_i z.1)) z.2) res) : mm_X g 0 0 M 40 [] [] := by
  unfold f_X10_answer_40 at hf
  refine xr_bipush 42 C (v := (-2)) dX10_answer_40 (by decide) rfl ?_
  obtain rfl := Option.some.inj hf
  exact xr_iret C ko ⟨(Nat.le_of_ble_eq_true rfl), (Nat.le_of_ble_eq_true rfl)⟩ dX10_answer_42
noncomputable def f_X10_answer_316 (M : mm_M) (v0 : Option Nat) (v1 : Int32) : Option (Int32 × mm_M) :=
  (mm_fR M v0 11 10).bind fun x317 =>
  (mm_aI M x317 12 v1).bind fun x321 =>
  some (x321, M)
set_option maxRecDepth 20000 in
theorem w_X10_answer_316 {g : mm_c} (C : mm_ok g cX10_answer "LessonCardsModel" (some .int) "answer" 5 3 76 0 0) {M : mm_M} {v0 : Option Nat} {v1 : Int32} {res : Int32 × mm_M} (hf : f_X10_answer_316 M v0 v1 = some res) (ko : (fun z => mm_q g 0 0 (some (mm_i z.1)) z.2) res) : mm_X g 0 0 M 316 [(0, mm_r v0), (1, mm_i v1)] [] := by
  unfold f_X10_answer_316 at hf
  refine xr_aload_n 317 0 C dX10_answer_316 rfl rfl rfl ?_
  obtain ⟨x317, h317, hf⟩ := mm_bd_e hf
  refine xr_getR 320 C cf_X10_35 rfl h317 dX10_answer_317 rfl ?_
  refine xr_iload_n 321 1 C dX10_answer_320 rfl rfl rfl ?_
  obtain ⟨x321, h321, hf⟩ := mm_bd_e hf
  refine xr_aldI 322 C h321 dX10_answer_321 rfl ?_
  obtain rfl := Option.some.inj hf
  exact xr_iret C ko ⟨(Nat.le_of_ble_eq_true rfl), (Nat.le_of_ble_eq_true rfl)⟩ dX10_answer_322
noncomputable def f_X10_answer_277 (M : mm_M) (v0 : Option Nat) (v1 : Int32) (v3 : Int32) (v4 : Int32) : Option (Int32 × mm_M) :=
  (mm_fR M v0 11 11).bind fun x278 =>
  (mm_aI M x278 12 v4).bind fun x284 =>
  (mm_tI M x278 v4 (x284 + 1)).bind fun M287 =>
  (mm_fR M287 v0 11 9).bind fun x289 =>
  (mm_fR M287 v0 11 10).bind fun x298 =>
  (mm_aI M287 x298 12 v1).bind fun x302 =>
  (mm_tI M287 x289 ((v1 * 480) + x302) v3).bind fun M305 =>
  (mm_fR M305 v0 11 10).bind fun x307 =>
  (mm_aI M305 x307 12 v1).bind fun x312 =>
  (mm_tI M305 x307 v1 (x312 + 1)).bind fun M315 =>
  f_X10_answer_316 M315 v0 v1
set_option maxRecDepth 20000 in
theorem w_X10_answer_277 {g : mm_c} (C : mm_ok g cX10_answer "LessonCardsModel" (some .int) "answer" 5 3 76 0 0) {M : mm_M} {v0 : Option Nat} {v1 : Int32} {v3 : Int32} {v4 : Int32} {res : Int32 × mm_M} (hf : f_X10_answer_277 M v0 v1 v3 v4 = some res) (ko : (fun z => mm_q g 0 0 (some (mm_i z.1)) z.2) res) : mm_X g 0 0 M 277 [(0, mm_r v0), (1, mm_i v1), (3, mm_i v3), (4, mm_i v4)] [] := by
  unfold f_X10_answer_277 at hf
  refine xr_aload_n 278 0 C dX10_answer_277 rfl rfl rfl ?_
  obtain ⟨x278, h278, hf⟩ := mm_bd_e hf
  refine xr_getR 281 C cf_X10_38 rfl h278 dX10_answer_278 rfl ?_
  refine xr_iload 283 3 C dX10_answer_281 rfl rfl ?_
  refine xr_dup2_11 284 C dX10_answer_283 rfl rfl rfl ?_
  obtain ⟨x284, h284, hf⟩ := mm_bd_e hf
  refine xr_aldI 285 C h284 dX10_answer_284 rfl ?_
  refine xr_iconst 286 C (v := 1) dX10_answer_285 (by decide) rfl ?_
  refine xr_iadd 287 C dX10_answer_286 rfl ?_
  obtain ⟨M287, h287, hf⟩ := mm_bd_e hf
  refine xr_astI 288 C h287 dX10_answer_287 rfl ?_
  refine xr_aload_n 289 0 C dX10_answer_288 rfl rfl rfl ?_
  obtain ⟨x289, h289, hf⟩ := mm_bd_e hf
  refine xr_getR 292 C cf_X10_32 rfl h289 dX10_answer_289 rfl ?_
  refine xr_iload_n 293 1 C dX10_answer_292 rfl rfl rfl ?_
  refine xr_sipush 296 C (v := 480) dX10_answer_293 (by decide) rfl ?_
  refine xr_imul 297 C dX10_answer_296 rfl ?_
  refine xr_aload_n 298 0 C dX10_answer_297 rfl rfl rfl ?_
  obtain ⟨x298, h298, hf⟩ := mm_bd_e hf
  refine xr_getR 301 C cf_X10_35 rfl h298 dX10_answer_298 rfl ?_
  refine xr_iload_n 302 1 C dX10_answer_301 rfl rfl rfl ?_
  obtain ⟨x302, h302, hf⟩ := mm_bd_e hf
  refine xr_aldI 303 C h302 dX10_answer_302 rfl ?_
  refine xr_iadd 304 C dX10_answer_303 rfl ?_
  refine xr_iload_n 305 2 C dX10_answer_304 rfl rfl rfl ?_
  obtain ⟨M305, h305, hf⟩ := mm_bd_e hf
  refine xr_astI 306 C h305 dX10_answer_305 rfl ?_
  refine xr_aload_n 307 0 C dX10_answer_306 rfl rfl rfl ?_
  obtain ⟨x307, h307, hf⟩ := mm_bd_e hf
  refine xr_getR 310 C cf_X10_35 rfl h307 dX10_answer_307 rfl ?_
  refine xr_iload_n 311 1 C dX10_answer_310 rfl rfl rfl ?_
  refine xr_dup2_11 312 C dX10_answer_311 rfl rfl rfl ?_
  obtain ⟨x312, h312, hf⟩ := mm_bd_e hf
  refine xr_aldI 313 C h312 dX10_answer_312 rfl ?_
  refine xr_iconst 314 C (v := 1) dX10_answer_313 (by decide) rfl ?_
  refine xr_iadd 315 C dX10_answer_314 rfl ?_
  obtain ⟨M315, h315, hf⟩ := mm_bd_e hf
  refine xr_astI 316 C h315 dX10_answer_315 rfl ?_
  refine xr_sub [0, 1] (lv2 := [(0, mm_r v0), (1, mm_i v1)]) rfl ?_
  exact w_X10_answer_316 C hf ko
noncomputable def f_X10_answer_270 (M : mm_M) (v0 : Option Nat) (v1 : Int32) (v3 : Int32) (v4 : Int32) : Option (Int32 × mm_M) :=
  (mm_rc M v0 11).bind fun u271 =>
  (f_X10_isLeech M v0).bind fun x271 =>
  if x271 = 0 then f_X10_answer_277 M v0 v1 v3 v4 else f_X10_answer_316 M v0 v1
set_option maxRecDepth 20000 in
theorem w_X10_answer_270 {g : mm_c} (C : mm_ok g cX10_answer "LessonCardsModel" (some .int) "answer" 5 3 76 0 0) {M : mm_M} {v0 : Option Nat} {v1 : Int32} {v3 : Int32} {v4 : Int32} {res : Int32 × mm_M} (hf : f_X10_answer_270 M v0 v1 v3 v4 = some res) (ko : (fun z => mm_q g 0 0 (some (mm_i z.1)) z.2) res) : mm_X g 0 0 M 270 [(0, mm_r v0), (1, mm_i v1), (3, mm_i v3), (4, mm_i v4)] [] := by
  unfold f_X10_answer_270 at hf
  refine xr_aload_n 271 0 C dX10_answer_270 rfl rfl rfl ?_
  obtain ⟨u271, g271, hf⟩ := mm_bd_e hf
  obtain ⟨x271, h271, hf⟩ := mm_bd_e hf
  refine xr_callV 274 C [] cm_X10_176 (fun l G cy => c_X10_isLeech l G cy h271) g271 rfl rfl ⟨⟨Nat.le_of_ble_eq_true rfl, Nat.le_of_ble_eq_true rfl⟩, (Nat.le_of_ble_eq_true rfl), (Nat.le_of_ble_eq_true rfl)⟩ (Nat.le_of_ble_eq_true rfl) dX10_answer_271 rfl ?_
  refine xr_if_ne 316 277 C dX10_answer_274 (by decide) rfl (fun hc => ?_) (fun hc => ?_)
  · replace hf := (if_neg hc).symm.trans hf
    refine xr_sub [0, 1] (lv2 := [(0, mm_r v0), (1, mm_i v1)]) rfl ?_
    exact w_X10_answer_316 C hf ko
  · replace hf := (if_pos hc).symm.trans hf
    exact w_X10_answer_277 C hf ko
noncomputable def f_X10_answer_259 (M : mm_M) (v0 : Option Nat) (v1 : Int32) (v3 : Int32) (v4 : Int32) : Option (Int32 × mm_M) :=
  (mm_fR M v0 11 11).bind fun x260 =>
  (mm_aI M x260 12 v4).bind fun x265 =>
  if 2 ≤ x265 then f_X10_answer_316 M v0 v1 else f_X10_answer_270 M v0 v1 v3 v4
set_option maxRecDepth 20000 in
theorem w_X10_answer_259 {g : mm_c} (C : mm_ok g cX10_answer "LessonCardsModel" (some .int) "answer" 5 3 76 0 0) {M : mm_M} {v0 : Option Nat} {v1 : Int32} {v3 : Int32} {v4 : Int32} {res : Int32 × mm_M} (hf : f_X10_answer_259 M v0 v1 v3 v4 = some res) (ko : (fun z => mm_q g 0 0 (some (mm_i z.1)) z.2) res) : mm_X g 0 0 M 259 [(0, mm_r v0), (1, mm_i v1), (3, mm_i v3), (4, mm_i v4)] [] := by
  unfold f_X10_answer_259 at hf
  refine xr_aload_n 260 0 C dX10_answer_259 rfl rfl rfl ?_
  obtain ⟨x260, h260, hf⟩ := mm_bd_e hf
  refine xr_getR 263 C cf_X10_38 rfl h260 dX10_answer_260 rfl ?_
  refine xr_iload 265 3 C dX10_answer_263 rfl rfl ?_
  obtain ⟨x265, h265, hf⟩ := mm_bd_e hf
  refine xr_aldI 266 C h265 dX10_answer_265 rfl ?_
  refine xr_iconst 267 C (v := 2) dX10_answer_266 (by decide) rfl ?_
  refine xr_icmp_ge 316 270 C dX10_answer_267 (by decide) rfl (fun hc => ?_) (fun hc => ?_)
  · replace hf := (if_pos hc).symm.trans hf
    refine xr_sub [0, 1] (lv2 := [(0, mm_r v0), (1, mm_i v1)]) rfl ?_
    exact w_X10_answer_316 C hf ko
  · replace hf := (if_neg hc).symm.trans hf
    exact w_X10_answer_270 C hf ko
noncomputable def f_X10_answer_43 (M : mm_M) (v0 : Option Nat) (v1 : Int32) (v2 : Int32) : Option (Int32 × mm_M) :=
  (mm_fR M v0 11 9).bind fun x44 =>
  (mm_aI M x44 12 (v1 * 480)).bind fun x52 =>
  (mm_fR M v0 11 18).bind fun x64 =>
  (mm_fI M v0 11 28).bind fun x68 =>
  (mm_tI M x64 x68 ((v1 * 480) + x52)).bind fun M73 =>
  (mm_fR M73 v0 11 19).bind fun x75 =>
  (mm_fI M73 v0 11 28).bind fun x79 =>
  (mm_fR M73 v0 11 8).bind fun x83 =>
  (mm_aI M73 x83 12 v1).bind fun x87 =>
  (mm_tI M73 x75 x79 x87).bind fun M88 =>
  (mm_fR M88 v0 11 20).bind fun x90 =>
  (mm_fI M88 v0 11 28).bind fun x94 =>
  (mm_tI M88 x90 x94 v2).bind fun M98 =>
  (mm_fR M98 v0 11 21).bind fun x100 =>
  (mm_fI M98 v0 11 28).bind fun x104 =>
  (mm_fI M98 v0 11 4).bind fun x108 =>
  (mm_tI M98 x100 x104 x108).bind fun M111 =>
  (mm_fR M111 v0 11 22).bind fun x113 =>
  (mm_fI M111 v0 11 28).bind fun x117 =>
  (mm_fR M111 v0 11 5).bind fun x121 =>
  (mm_aI M111 x121 12 v2).bind fun x125 =>
  (mm_tI M111 x113 x117 x125).bind fun M126 =>
  (mm_fR M126 v0 11 23).bind fun x128 =>
  (mm_fI M126 v0 11 28).bind fun x132 =>
  (mm_fR M126 v0 11 13).bind fun x136 =>
  (mm_aI M126 x136 12 ((v1 * 480) + x52)).bind fun x141 =>
  (mm_tI M126 x128 x132 x141).bind fun M142 =>
  (mm_fR M142 v0 11 24).bind fun x144 =>
  (mm_fI M142 v0 11 28).bind fun x148 =>
  (mm_fR M142 v0 11 14).bind fun x152 =>
  (mm_aI M142 x152 12 ((v1 * 480) + x52)).bind fun x157 =>
  (mm_tI M142 x144 x148 x157).bind fun M158 =>
  (mm_fR M158 v0 11 25).bind fun x160 =>
  (mm_fI M158 v0 11 28).bind fun x164 =>
  (mm_fR M158 v0 11 15).bind fun x168 =>
  (mm_aI M158 x168 12 ((v1 * 480) + x52)).bind fun x173 =>
  (mm_tI M158 x160 x164 x173).bind fun M174 =>
  (mm_fR M174 v0 11 26).bind fun x176 =>
  (mm_fI M174 v0 11 28).bind fun x180 =>
  (mm_fR M174 v0 11 16).bind fun x184 =>
  (mm_aI M174 x184 12 ((v1 * 480) + x52)).bind fun x189 =>
  (mm_tI M174 x176 x180 x189).bind fun M190 =>
  (mm_fR M190 v0 11 27).bind fun x192 =>
  (mm_fI M190 v0 11 28).bind fun x196 =>
  (mm_fR M190 v0 11 17).bind fun x200 =>
  (mm_aI M190 x200 12 ((v1 * 480) + x52)).bind fun x205 =>
  (mm_tI M190 x192 x196 x205).bind fun M206 =>
  (mm_fI M206 v0 11 28).bind fun x209 =>
  (mm_pI M206 v0 11 28 (x209 + 1)).bind fun M214 =>
  (mm_rc M214 v0 11).bind fun u220 =>
  (f_X10_take M214 v0 ((v1 * 480) + x52)).bind fun M220 =>
  (mm_fI M220 v0 11 4).bind fun x225 =>
  (mm_fR M220 v0 11 5).bind fun x229 =>
  (mm_aI M220 x229 12 v2).bind fun x233 =>
  (mm_fR M220 v0 11 8).bind fun x236 =>
  (mm_aI M220 x236 12 v1).bind fun x240 =>
  (mm_rc M220 v0 11).bind fun u241 =>
  (f_X10_answerBy M220 v0 x225 x233 v2 x240).bind fun M241 =>
  (mm_rc M241 v0 11).bind fun u247 =>
  (f_X10_give M241 v0 ((v1 * 480) + x52)).bind fun M247 =>
  (mm_rc M247 v0 11).bind fun u252 =>
  (f_X10_dropFirst M247 v0 v1).bind fun M252 =>
  if v2 = 0 then f_X10_answer_259 M252 v0 v1 x52 ((v1 * 480) + x52) else f_X10_answer_316 M252 v0 v1
set_option maxRecDepth 20000 in
theorem w_X10_answer_43 {g : mm_c} (C : mm_ok g cX10_answer "LessonCardsModel" (some .int) "answer" 5 3 76 0 0) {M : mm_M} {v0 : Option Nat} {v1 : Int32} {v2 : Int32} {res : Int32 × mm_M} (hf : f_X10_answer_43 M v0 v1 v2 = some res) (ko : (fun z => mm_q g 0 0 (some (mm_i z.1)) z.2) res) : mm_X g 0 0 M 43 [(0, mm_r v0), (1, mm_i v1), (2, mm_i v2)] [] := by
  unfold f_X10_answer_43 at hf
  refine xr_aload_n 44 0 C dX10_answer_43 rfl rfl rfl ?_
  obtain ⟨x44, h44, hf⟩ := mm_bd_e hf
  refine xr_getR 47 C cf_X10_32 rfl h44 dX10_answer_44 rfl ?_
  refine xr_iload_n 48 1 C dX10_answer_47 rfl rfl rfl ?_
  refine xr_sipush 51 C (v := 480) dX10_answer_48 (by decide) rfl ?_
  refine xr_imul 52 C dX10_answer_51 rfl ?_
  obtain ⟨x52, h52, hf⟩ := mm_bd_e hf
  refine xr_aldI 53 C h52 dX10_answer_52 rfl ?_
  refine xr_istore_n 54 C dX10_answer_53 rfl (by decide) rfl [(3, mm_i x52), (0, mm_r v0), (1, mm_i v1), (2, mm_i v2)] rfl ?_
  refine xr_iload_n 55 2 C dX10_answer_54 rfl rfl rfl ?_
  refine xr_sipush 58 C (v := 480) dX10_answer_55 (by decide) rfl ?_
  refine xr_imul 59 C dX10_answer_58 rfl ?_
  refine xr_iload_n 60 0 C dX10_answer_59 rfl rfl rfl ?_
  refine xr_iadd 61 C dX10_answer_60 rfl ?_
  refine xr_istore 63 C dX10_answer_61 (by decide) rfl [(4, mm_i ((v1 * 480) + x52)), (3, mm_i x52), (0, mm_r v0), (1, mm_i v1), (2, mm_i v2)] rfl ?_
  refine xr_aload_n 64 2 C dX10_answer_63 rfl rfl rfl ?_
  obtain ⟨x64, h64, hf⟩ := mm_bd_e hf
  refine xr_getR 67 C cf_X10_60 rfl h64 dX10_answer_64 rfl ?_
  refine xr_aload_n 68 2 C dX10_answer_67 rfl rfl rfl ?_
  obtain ⟨x68, h68, hf⟩ := mm_bd_e hf
  refine xr_getI 71 C cf_X10_207 rfl h68 dX10_answer_68 rfl ?_
  refine xr_iload 73 0 C dX10_answer_71 rfl rfl ?_
  obtain ⟨M73, h73, hf⟩ := mm_bd_e hf
  refine xr_astI 74 C h73 dX10_answer_73 rfl ?_
  refine xr_aload_n 75 2 C dX10_answer_74 rfl rfl rfl ?_
  obtain ⟨x75, h75, hf⟩ := mm_bd_e hf
  refine xr_getR 78 C cf_X10_63 rfl h75 dX10_answer_75 rfl ?_
  refine xr_aload_n 79 2 C dX10_answer_78 rfl rfl rfl ?_
  obtain ⟨x79, h79, hf⟩ := mm_bd_e hf
  refine xr_getI 82 C cf_X10_207 rfl h79 dX10_answer_79 rfl ?_
  refine xr_aload_n 83 2 C dX10_answer_82 rfl rfl rfl ?_
  obtain ⟨x83, h83, hf⟩ := mm_bd_e hf
  refine xr_getR 86 C cf_X10_29 rfl h83 dX10_answer_83 rfl ?_
  refine xr_iload_n 87 3 C dX10_answer_86 rfl rfl rfl ?_
  obtain ⟨x87, h87, hf⟩ := mm_bd_e hf
  refine xr_aldI 88 C h87 dX10_answer_87 rfl ?_
  obtain ⟨M88, h88, hf⟩ := mm_bd_e hf
  refine xr_astI 89 C h88 dX10_answer_88 rfl ?_
  refine xr_aload_n 90 2 C dX10_answer_89 rfl rfl rfl ?_
  obtain ⟨x90, h90, hf⟩ := mm_bd_e hf
  refine xr_getR 93 C cf_X10_66 rfl h90 dX10_answer_90 rfl ?_
  refine xr_aload_n 94 2 C dX10_answer_93 rfl rfl rfl ?_
  obtain ⟨x94, h94, hf⟩ := mm_bd_e hf
  refine xr_getI 97 C cf_X10_207 rfl h94 dX10_answer_94 rfl ?_
  refine xr_iload_n 98 4 C dX10_answer_97 rfl rfl rfl ?_
  obtain ⟨M98, h98, hf⟩ := mm_bd_e hf
  refine xr_astI 99 C h98 dX10_answer_98 rfl ?_
  refine xr_aload_n 100 2 C dX10_answer_99 rfl rfl rfl ?_
  obtain ⟨x100, h100, hf⟩ := mm_bd_e hf
  refine xr_getR 103 C cf_X10_69 rfl h100 dX10_answer_100 rfl ?_
  refine xr_aload_n 104 2 C dX10_answer_103 rfl rfl rfl ?_
  obtain ⟨x104, h104, hf⟩ := mm_bd_e hf
  refine xr_getI 107 C cf_X10_207 rfl h104 dX10_answer_104 rfl ?_
  refine xr_aload_n 108 2 C dX10_answer_107 rfl rfl rfl ?_
  obtain ⟨x108, h108, hf⟩ := mm_bd_e hf
  refine xr_getI 111 C cf_X10_131 rfl h108 dX10_answer_108 rfl ?_
  obtain ⟨M111, h111, hf⟩ := mm_bd_e hf
  refine xr_astI 112 C h111 dX10_answer_111 rfl ?_
  refine xr_aload_n 113 2 C dX10_answer_112 rfl rfl rfl ?_
  obtain ⟨x113, h113, hf⟩ := mm_bd_e hf
  refine xr_getR 116 C cf_X10_72 rfl h113 dX10_answer_113 rfl ?_
  refine xr_aload_n 117 2 C dX10_answer_116 rfl rfl rfl ?_
  obtain ⟨x117, h117, hf⟩ := mm_bd_e hf
  refine xr_getI 120 C cf_X10_207 rfl h117 dX10_answer_117 rfl ?_
  refine xr_aload_n 121 2 C dX10_answer_120 rfl rfl rfl ?_
  obtain ⟨x121, h121, hf⟩ := mm_bd_e hf
  refine xr_getR 124 C cf_X10_19 rfl h121 dX10_answer_121 rfl ?_
  refine xr_iload_n 125 4 C dX10_answer_124 rfl rfl rfl ?_
  obtain ⟨x125, h125, hf⟩ := mm_bd_e hf
  refine xr_aldI 126 C h125 dX10_answer_125 rfl ?_
  obtain ⟨M126, h126, hf⟩ := mm_bd_e hf
  refine xr_astI 127 C h126 dX10_answer_126 rfl ?_
  refine xr_aload_n 128 2 C dX10_answer_127 rfl rfl rfl ?_
  obtain ⟨x128, h128, hf⟩ := mm_bd_e hf
  refine xr_getR 131 C cf_X10_75 rfl h128 dX10_answer_128 rfl ?_
  refine xr_aload_n 132 2 C dX10_answer_131 rfl rfl rfl ?_
  obtain ⟨x132, h132, hf⟩ := mm_bd_e hf
  refine xr_getI 135 C cf_X10_207 rfl h132 dX10_answer_132 rfl ?_
  refine xr_aload_n 136 2 C dX10_answer_135 rfl rfl rfl ?_
  obtain ⟨x136, h136, hf⟩ := mm_bd_e hf
  refine xr_getR 139 C cf_X10_45 rfl h136 dX10_answer_136 rfl ?_
  refine xr_iload 141 0 C dX10_answer_139 rfl rfl ?_
  obtain ⟨x141, h141, hf⟩ := mm_bd_e hf
  refine xr_aldI 142 C h141 dX10_answer_141 rfl ?_
  obtain ⟨M142, h142, hf⟩ := mm_bd_e hf
  refine xr_astI 143 C h142 dX10_answer_142 rfl ?_
  refine xr_aload_n 144 2 C dX10_answer_143 rfl rfl rfl ?_
  obtain ⟨x144, h144, hf⟩ := mm_bd_e hf
  refine xr_getR 147 C cf_X10_78 rfl h144 dX10_answer_144 rfl ?_
  refine xr_aload_n 148 2 C dX10_answer_147 rfl rfl rfl ?_
  obtain ⟨x148, h148, hf⟩ := mm_bd_e hf
  refine xr_getI 151 C cf_X10_207 rfl h148 dX10_answer_148 rfl ?_
  refine xr_aload_n 152 2 C dX10_answer_151 rfl rfl rfl ?_
  obtain ⟨x152, h152, hf⟩ := mm_bd_e hf
  refine xr_getR 155 C cf_X10_48 rfl h152 dX10_answer_152 rfl ?_
  refine xr_iload 157 0 C dX10_answer_155 rfl rfl ?_
  obtain ⟨x157, h157, hf⟩ := mm_bd_e hf
  refine xr_aldI 158 C h157 dX10_answer_157 rfl ?_
  obtain ⟨M158, h158, hf⟩ := mm_bd_e hf
  refine xr_astI 159 C h158 dX10_answer_158 rfl ?_
  refine xr_aload_n 160 2 C dX10_answer_159 rfl rfl rfl ?_
  obtain ⟨x160, h160, hf⟩ := mm_bd_e hf
  refine xr_getR 163 C cf_X10_81 rfl h160 dX10_answer_160 rfl ?_
  refine xr_aload_n 164 2 C dX10_answer_163 rfl rfl rfl ?_
  obtain ⟨x164, h164, hf⟩ := mm_bd_e hf
  refine xr_getI 167 C cf_X10_207 rfl h164 dX10_answer_164 rfl ?_
  refine xr_aload_n 168 2 C dX10_answer_167 rfl rfl rfl ?_
  obtain ⟨x168, h168, hf⟩ := mm_bd_e hf
  refine xr_getR 171 C cf_X10_51 rfl h168 dX10_answer_168 rfl ?_
  refine xr_iload 173 0 C dX10_answer_171 rfl rfl ?_
  obtain ⟨x173, h173, hf⟩ := mm_bd_e hf
  refine xr_aldI 174 C h173 dX10_answer_173 rfl ?_
  obtain ⟨M174, h174, hf⟩ := mm_bd_e hf
  refine xr_astI 175 C h174 dX10_answer_174 rfl ?_
  refine xr_aload_n 176 2 C dX10_answer_175 rfl rfl rfl ?_
  obtain ⟨x176, h176, hf⟩ := mm_bd_e hf
  refine xr_getR 179 C cf_X10_84 rfl h176 dX10_answer_176 rfl ?_
  refine xr_aload_n 180 2 C dX10_answer_179 rfl rfl rfl ?_
  obtain ⟨x180, h180, hf⟩ := mm_bd_e hf
  refine xr_getI 183 C cf_X10_207 rfl h180 dX10_answer_180 rfl ?_
  refine xr_aload_n 184 2 C dX10_answer_183 rfl rfl rfl ?_
  obtain ⟨x184, h184, hf⟩ := mm_bd_e hf
  refine xr_getR 187 C cf_X10_54 rfl h184 dX10_answer_184 rfl ?_
  refine xr_iload 189 0 C dX10_answer_187 rfl rfl ?_
  obtain ⟨x189, h189, hf⟩ := mm_bd_e hf
  refine xr_aldI 190 C h189 dX10_answer_189 rfl ?_
  obtain ⟨M190, h190, hf⟩ := mm_bd_e hf
  refine xr_astI 191 C h190 dX10_answer_190 rfl ?_
  refine xr_aload_n 192 2 C dX10_answer_191 rfl rfl rfl ?_
  obtain ⟨x192, h192, hf⟩ := mm_bd_e hf
  refine xr_getR 195 C cf_X10_87 rfl h192 dX10_answer_192 rfl ?_
  refine xr_aload_n 196 2 C dX10_answer_195 rfl rfl rfl ?_
  obtain ⟨x196, h196, hf⟩ := mm_bd_e hf
  refine xr_getI 199 C cf_X10_207 rfl h196 dX10_answer_196 rfl ?_
  refine xr_aload_n 200 2 C dX10_answer_199 rfl rfl rfl ?_
  obtain ⟨x200, h200, hf⟩ := mm_bd_e hf
  refine xr_getR 203 C cf_X10_57 rfl h200 dX10_answer_200 rfl ?_
  refine xr_iload 205 0 C dX10_answer_203 rfl rfl ?_
  obtain ⟨x205, h205, hf⟩ := mm_bd_e hf
  refine xr_aldI 206 C h205 dX10_answer_205 rfl ?_
  obtain ⟨M206, h206, hf⟩ := mm_bd_e hf
  refine xr_astI 207 C h206 dX10_answer_206 rfl ?_
  refine xr_aload_n 208 2 C dX10_answer_207 rfl rfl rfl ?_
  refine xr_dup 209 C dX10_answer_208 rfl rfl ?_
  obtain ⟨x209, h209, hf⟩ := mm_bd_e hf
  refine xr_getI 212 C cf_X10_207 rfl h209 dX10_answer_209 rfl ?_
  refine xr_iconst 213 C (v := 1) dX10_answer_212 (by decide) rfl ?_
  refine xr_iadd 214 C dX10_answer_213 rfl ?_
  obtain ⟨M214, h214, hf⟩ := mm_bd_e hf
  refine xr_putI 217 C cf_X10_207 (fun h => by cases h) h214 dX10_answer_214 rfl ?_
  refine xr_aload_n 218 2 C dX10_answer_217 rfl rfl rfl ?_
  refine xr_iload 220 0 C dX10_answer_218 rfl rfl ?_
  obtain ⟨u220, g220, hf⟩ := mm_bd_e hf
  obtain ⟨M220, h220, hf⟩ := mm_bd_e hf
  refine xr_callV 223 C [mm_i ((v1 * 480) + x52)] cm_X10_180 (fun l G cy => c_X10_take l G cy h220) g220 rfl rfl ⟨⟨Nat.le_of_ble_eq_true rfl, Nat.le_of_ble_eq_true rfl⟩, (Nat.le_of_ble_eq_true rfl), (Nat.le_of_ble_eq_true rfl)⟩ (Nat.le_of_ble_eq_true rfl) dX10_answer_220 rfl ?_
  refine xr_aload_n 224 2 C dX10_answer_223 rfl rfl rfl ?_
  refine xr_aload_n 225 2 C dX10_answer_224 rfl rfl rfl ?_
  obtain ⟨x225, h225, hf⟩ := mm_bd_e hf
  refine xr_getI 228 C cf_X10_131 rfl h225 dX10_answer_225 rfl ?_
  refine xr_aload_n 229 2 C dX10_answer_228 rfl rfl rfl ?_
  obtain ⟨x229, h229, hf⟩ := mm_bd_e hf
  refine xr_getR 232 C cf_X10_19 rfl h229 dX10_answer_229 rfl ?_
  refine xr_iload_n 233 4 C dX10_answer_232 rfl rfl rfl ?_
  obtain ⟨x233, h233, hf⟩ := mm_bd_e hf
  refine xr_aldI 234 C h233 dX10_answer_233 rfl ?_
  refine xr_iload_n 235 4 C dX10_answer_234 rfl rfl rfl ?_
  refine xr_aload_n 236 2 C dX10_answer_235 rfl rfl rfl ?_
  obtain ⟨x236, h236, hf⟩ := mm_bd_e hf
  refine xr_getR 239 C cf_X10_29 rfl h236 dX10_answer_236 rfl ?_
  refine xr_iload_n 240 3 C dX10_answer_239 rfl rfl rfl ?_
  obtain ⟨x240, h240, hf⟩ := mm_bd_e hf
  refine xr_aldI 241 C h240 dX10_answer_240 rfl ?_
  obtain ⟨u241, g241, hf⟩ := mm_bd_e hf
  obtain ⟨M241, h241, hf⟩ := mm_bd_e hf
  refine xr_callV 244 C [mm_i x225, mm_i x233, mm_i v2, mm_i x240] cm_X10_210 (fun l G cy => c_X10_answerBy l G cy h241) g241 rfl rfl ⟨⟨Nat.le_of_ble_eq_true rfl, Nat.le_of_ble_eq_true rfl⟩, (Nat.le_of_ble_eq_true rfl), (Nat.le_of_ble_eq_true rfl)⟩ (Nat.le_of_ble_eq_true rfl) dX10_answer_241 rfl ?_
  refine xr_aload_n 245 2 C dX10_answer_244 rfl rfl rfl ?_
  refine xr_iload 247 0 C dX10_answer_245 rfl rfl ?_
  obtain ⟨u247, g247, hf⟩ := mm_bd_e hf
  obtain ⟨M247, h247, hf⟩ := mm_bd_e hf
  refine xr_callV 250 C [mm_i ((v1 * 480) + x52)] cm_X10_214 (fun l G cy => c_X10_give l G cy h247) g247 rfl rfl ⟨⟨Nat.le_of_ble_eq_true rfl, Nat.le_of_ble_eq_true rfl⟩, (Nat.le_of_ble_eq_true rfl), (Nat.le_of_ble_eq_true rfl)⟩ (Nat.le_of_ble_eq_true rfl) dX10_answer_247 rfl ?_
  refine xr_aload_n 251 2 C dX10_answer_250 rfl rfl rfl ?_
  refine xr_iload_n 252 3 C dX10_answer_251 rfl rfl rfl ?_
  obtain ⟨u252, g252, hf⟩ := mm_bd_e hf
  obtain ⟨M252, h252, hf⟩ := mm_bd_e hf
  refine xr_callV 255 C [mm_i v1] cm_X10_217 (fun l G cy => c_X10_dropFirst l G cy h252) g252 rfl rfl ⟨⟨Nat.le_of_ble_eq_true rfl, Nat.le_of_ble_eq_true rfl⟩, (Nat.le_of_ble_eq_true rfl), (Nat.le_of_ble_eq_true rfl)⟩ (Nat.le_of_ble_eq_true rfl) dX10_answer_252 rfl ?_
  refine xr_iload_n 256 4 C dX10_answer_255 rfl rfl rfl ?_
  refine xr_if_ne 316 259 C dX10_answer_256 (by decide) rfl (fun hc => ?_) (fun hc => ?_)
  · replace hf := (if_neg hc).symm.trans hf
    refine xr_sub [2, 3] (lv2 := [(0, mm_r v0), (1, mm_i v1)]) rfl ?_
    exact w_X10_answer_316 C hf ko
  · replace hf := (if_pos hc).symm.trans hf
    refine xr_sub [2, 3, 1, 0] (lv2 := [(0, mm_r v0), (1, mm_i v1), (3, mm_i x52), (4, mm_i ((v1 * 480) + x52))]) rfl ?_
    exact w_X10_answer_259 C hf ko
noncomputable def f_X10_answer_30 (M : mm_M) (v0 : Option Nat) (v1 : Int32) (v2 : Int32) : Option (Int32 × mm_M) :=
  (mm_fI M v0 11 28).bind fun x31 =>
  if x31 = 3000 then f_X10_answer_40 M else f_X10_answer_43 M v0 v1 v2
set_option maxRecDepth 20000 in
theorem w_X10_answer_30 {g : mm_c} (C : mm_ok g cX10_answer "LessonCardsModel" (some .int) "answer" 5 3 76 0 0) {M : mm_M} {v0 : Option Nat} {v1 : Int32} {v2 : Int32} {res : Int32 × mm_M} (hf : f_X10_answer_30 M v0 v1 v2 = some res) (ko : (fun z => mm_q g 0 0 (some (mm_i z.1)) z.2) res) : mm_X g 0 0 M 30 [(0, mm_r v0), (1, mm_i v1), (2, mm_i v2)] [] := by
  unfold f_X10_answer_30 at hf
  refine xr_aload_n 31 0 C dX10_answer_30 rfl rfl rfl ?_
  obtain ⟨x31, h31, hf⟩ := mm_bd_e hf
  refine xr_getI 34 C cf_X10_207 rfl h31 dX10_answer_31 rfl ?_
  refine xr_sipush 37 C (v := 3000) dX10_answer_34 (by decide) rfl ?_
  refine xr_icmp_ne 43 40 C dX10_answer_37 (by decide) rfl (fun hc => ?_) (fun hc => ?_)
  · replace hf := (if_neg hc).symm.trans hf
    exact w_X10_answer_43 C hf ko
  · replace hf := (if_pos hc).symm.trans hf
    refine xr_sub [] (lv2 := []) rfl ?_
    exact w_X10_answer_40 C hf ko
noncomputable def f_X10_answer_18 (M : mm_M) (v0 : Option Nat) (v1 : Int32) (v2 : Int32) : Option (Int32 × mm_M) :=
  (mm_fR M v0 11 10).bind fun x19 =>
  (mm_aI M x19 12 v1).bind fun x23 =>
  if x23 = 0 then f_X10_answer_27 M else f_X10_answer_30 M v0 v1 v2
set_option maxRecDepth 20000 in
theorem w_X10_answer_18 {g : mm_c} (C : mm_ok g cX10_answer "LessonCardsModel" (some .int) "answer" 5 3 76 0 0) {M : mm_M} {v0 : Option Nat} {v1 : Int32} {v2 : Int32} {res : Int32 × mm_M} (hf : f_X10_answer_18 M v0 v1 v2 = some res) (ko : (fun z => mm_q g 0 0 (some (mm_i z.1)) z.2) res) : mm_X g 0 0 M 18 [(0, mm_r v0), (1, mm_i v1), (2, mm_i v2)] [] := by
  unfold f_X10_answer_18 at hf
  refine xr_aload_n 19 0 C dX10_answer_18 rfl rfl rfl ?_
  obtain ⟨x19, h19, hf⟩ := mm_bd_e hf
  refine xr_getR 22 C cf_X10_35 rfl h19 dX10_answer_19 rfl ?_
  refine xr_iload_n 23 1 C dX10_answer_22 rfl rfl rfl ?_
  obtain ⟨x23, h23, hf⟩ := mm_bd_e hf
  refine xr_aldI 24 C h23 dX10_answer_23 rfl ?_
  refine xr_if_ne 30 27 C dX10_answer_24 (by decide) rfl (fun hc => ?_) (fun hc => ?_)
  · replace hf := (if_neg hc).symm.trans hf
    exact w_X10_answer_30 C hf ko
  · replace hf := (if_pos hc).symm.trans hf
    refine xr_sub [] (lv2 := []) rfl ?_
    exact w_X10_answer_27 C hf ko
noncomputable def f_X10_answer_7 (M : mm_M) (v0 : Option Nat) (v1 : Int32) (v2 : Int32) : Option (Int32 × mm_M) :=
  (f_X10_within M v2 0 3).bind fun x10 =>
  if x10 = 0 then f_X10_answer_16 M else f_X10_answer_18 M v0 v1 v2
set_option maxRecDepth 20000 in
theorem w_X10_answer_7 {g : mm_c} (C : mm_ok g cX10_answer "LessonCardsModel" (some .int) "answer" 5 3 76 0 0) {M : mm_M} {v0 : Option Nat} {v1 : Int32} {v2 : Int32} {res : Int32 × mm_M} (hf : f_X10_answer_7 M v0 v1 v2 = some res) (ko : (fun z => mm_q g 0 0 (some (mm_i z.1)) z.2) res) : mm_X g 0 0 M 7 [(0, mm_r v0), (1, mm_i v1), (2, mm_i v2)] [] := by
  unfold f_X10_answer_7 at hf
  refine xr_iload_n 8 2 C dX10_answer_7 rfl rfl rfl ?_
  refine xr_iconst 9 C (v := 0) dX10_answer_8 (by decide) rfl ?_
  refine xr_iconst 10 C (v := 3) dX10_answer_9 (by decide) rfl ?_
  obtain ⟨x10, h10, hf⟩ := mm_bd_e hf
  refine xr_callS 13 C [mm_i v2, mm_i 0, mm_i 3] cm_X10_123 (fun l G cy => c_X10_within l G cy h10) rfl rfl ⟨⟨Nat.le_of_ble_eq_true rfl, Nat.le_of_ble_eq_true rfl⟩, (Nat.le_of_ble_eq_true rfl), (Nat.le_of_ble_eq_true rfl)⟩ (Nat.le_of_ble_eq_true rfl) dX10_answer_10 rfl ?_
  refine xr_if_ne 18 16 C dX10_answer_13 (by decide) rfl (fun hc => ?_) (fun hc => ?_)
  · replace hf := (if_neg hc).symm.trans hf
    exact w_X10_answer_18 C hf ko
  · replace hf := (if_pos hc).symm.trans hf
    refine xr_sub [] (lv2 := []) rfl ?_
    exact w_X10_answer_16 C hf ko
noncomputable def f_X10_answer_0 (M : mm_M) (v0 : Option Nat) (v1 : Int32) (v2 : Int32) : Option (Int32 × mm_M) :=
  (f_X10_isPupil M v1).bind fun x1 =>
  if x1 = 0 then f_X10_answer_16 M else f_X10_answer_7 M v0 v1 v2
set_option maxRecDepth 20000 in
theorem w_X10_answer_0 {g : mm_c} (C : mm_ok g cX10_answer "LessonCardsModel" (some .int) "answer" 5 3 76 0 0) {M : mm_M} {v0 : Option Nat} {v1 : Int32} {v2 : Int32} {res : Int32 × mm_M} (hf : f_X10_answer_0 M v0 v1 v2 = some res) (ko : (fun z => mm_q g 0 0 (some (mm_i z.1)) z.2) res) : mm_X g 0 0 M 0 [(0, mm_r v0), (1, mm_i v1), (2, mm_i v2)] [] := by
  unfold f_X10_answer_0 at hf
  refine xr_iload_n 1 1 C dX10_answer_0 rfl rfl rfl ?_
  obtain ⟨x1, h1, hf⟩ := mm_bd_e hf
  refine xr_callS 4 C [mm_i v1] cm_X10_190 (fun l G cy => c_X10_isPupil l G cy h1) rfl rfl ⟨⟨Nat.le_of_ble_eq_true rfl, Nat.le_of_ble_eq_true rfl⟩, (Nat.le_of_ble_eq_true rfl), (Nat.le_of_ble_eq_true rfl)⟩ (Nat.le_of_ble_eq_true rfl) dX10_answer_1 rfl ?_
  refine xr_if_eq 16 7 C dX10_answer_4 (by decide) rfl (fun hc => ?_) (fun hc => ?_)
  · replace hf := (if_pos hc).symm.trans hf
    refine xr_sub [] (lv2 := []) rfl ?_
    exact w_X10_answer_16 C hf ko
  · replace hf := (if_neg hc).symm.trans hf
    exact w_X10_answer_7 C hf ko
noncomputable def f_X10_answer (M : mm_M) (v0 : Option Nat) (v1 : Int32) (v2 : Int32) : Option (Int32 × mm_M) := f_X10_answer_0 M v0 v1 v2
theorem c_X10_answer (l : Launch) (G : va_G) (cy : Nat → ClassId) {M : mm_M} {v0 : Option Nat} {v1 : Int32} {v2 : Int32} {r : Int32} {M1 : mm_M} (hf : f_X10_answer M v0 v1 v2 = some (r, M1)) : mm_Met l yX10_answer cX10_answer 5 (some .int) 3 76 0 0 G cy [mm_r v0, mm_i v1, mm_i v2] M (some (mm_i r)) M1 :=
  mm_enter (by decide) (Nat.le_of_ble_eq_true rfl) (fun p e R s m args below meth c Q C hq => xr_sub [0, 1, 2] (lv2 := [(0, mm_r v0), (1, mm_i v1), (2, mm_i v2)]) rfl (w_X10_answer_0 C hf hq))
noncomputable def f_X10_skip_7 (M : mm_M) : Option (Int32 × mm_M) :=
  some ((-1), M)
set_option maxRecDepth 20000 in
theorem w_X10_skip_7 {g : mm_c} (C : mm_ok g cX10_skip "LessonCardsModel" (some .int) "skip" 3 1 22 0 0) {M : mm_M} {res : Int32 × mm_M} (hf : f_X10_skip_7 M = some res) (ko : (fun z => mm_q g 0 0 (some (mm_i z.1)) z.2) res) : mm_X g 0 0 M 7 [] [] := by
  unfold f_X10_skip_7 at hf
  refine xr_iconst 8 C (v := (-1)) dX10_skip_7 (by decide) rfl ?_
  obtain rfl := Option.some.inj hf
  exact xr_iret C ko ⟨(Nat.le_of_ble_eq_true rfl), (Nat.le_of_ble_eq_true rfl)⟩ dX10_skip_8
noncomputable def f_X10_skip_18 (M : mm_M) : Option (Int32 × mm_M) :=
  some ((-4), M)
set_option maxRecDepth 20000 in
theorem w_X10_skip_18 {g : mm_c} (C : mm_ok g cX10_skip "LessonCardsModel" (some .int) "skip" 3 1 22 0 0) {M : mm_M} {res : Int32 × mm_M} (hf : f_X10_skip_18 M = some res) (ko : (fun z => mm_q g 0 0 (some (mm_i z.1)) z.2) res) : mm_X g 0 0 M 18 [] [] := by
  unfold f_X10_skip_18 at hf
  refine xr_bipush 20 C (v := (-4)) dX10_skip_18 (by decide) rfl ?_
  obtain rfl := Option.some.inj hf
  exact xr_iret C ko ⟨(Nat.le_of_ble_eq_true rfl), (Nat.le_of_ble_eq_true rfl)⟩ dX10_skip_20
noncomputable def f_X10_skip_21 (M : mm_M) (v0 : Option Nat) (v1 : Int32) : Option (Int32 × mm_M) :=
  (mm_fR M v0 11 9).bind fun x22 =>
  (mm_aI M x22 12 (v1 * 480)).bind fun x30 =>
  (mm_rc M v0 11).bind fun u34 =>
  (f_X10_dropFirst M v0 v1).bind fun M34 =>
  (mm_fR M34 v0 11 9).bind fun x38 =>
  (mm_fR M34 v0 11 10).bind fun x47 =>
  (mm_aI M34 x47 12 v1).bind fun x51 =>
  (mm_tI M34 x38 ((v1 * 480) + x51) x30).bind fun M54 =>
  (mm_fR M54 v0 11 10).bind fun x56 =>
  (mm_aI M54 x56 12 v1).bind fun x61 =>
  (mm_tI M54 x56 v1 (x61 + 1)).bind fun M64 =>
  (mm_fR M64 v0 11 10).bind fun x66 =>
  (mm_aI M64 x66 12 v1).bind fun x70 =>
  some (x70, M64)
set_option maxRecDepth 20000 in
theorem w_X10_skip_21 {g : mm_c} (C : mm_ok g cX10_skip "LessonCardsModel" (some .int) "skip" 3 1 22 0 0) {M : mm_M} {v0 : Option Nat} {v1 : Int32} {res : Int32 × mm_M} (hf : f_X10_skip_21 M v0 v1 = some res) (ko : (fun z => mm_q g 0 0 (some (mm_i z.1)) z.2) res) : mm_X g 0 0 M 21 [(0, mm_r v0), (1, mm_i v1)] [] := by
  unfold f_X10_skip_21 at hf
  refine xr_aload_n 22 0 C dX10_skip_21 rfl rfl rfl ?_
  obtain ⟨x22, h22, hf⟩ := mm_bd_e hf
  refine xr_getR 25 C cf_X10_32 rfl h22 dX10_skip_22 rfl ?_
  refine xr_iload_n 26 1 C dX10_skip_25 rfl rfl rfl ?_
  refine xr_sipush 29 C (v := 480) dX10_skip_26 (by decide) rfl ?_
  refine xr_imul 30 C dX10_skip_29 rfl ?_
  obtain ⟨x30, h30, hf⟩ := mm_bd_e hf
  refine xr_aldI 31 C h30 dX10_skip_30 rfl ?_
  refine xr_istore_n 32 C dX10_skip_31 rfl (by decide) rfl [(2, mm_i x30), (0, mm_r v0), (1, mm_i v1)] rfl ?_
  refine xr_aload_n 33 1 C dX10_skip_32 rfl rfl rfl ?_
  refine xr_iload_n 34 2 C dX10_skip_33 rfl rfl rfl ?_
  obtain ⟨u34, g34, hf⟩ := mm_bd_e hf
  obtain ⟨M34, h34, hf⟩ := mm_bd_e hf
  refine xr_callV 37 C [mm_i v1] cm_X10_217 (fun l G cy => c_X10_dropFirst l G cy h34) g34 rfl rfl ⟨⟨Nat.le_of_ble_eq_true rfl, Nat.le_of_ble_eq_true rfl⟩, (Nat.le_of_ble_eq_true rfl), (Nat.le_of_ble_eq_true rfl)⟩ (Nat.le_of_ble_eq_true rfl) dX10_skip_34 rfl ?_
  refine xr_aload_n 38 1 C dX10_skip_37 rfl rfl rfl ?_
  obtain ⟨x38, h38, hf⟩ := mm_bd_e hf
  refine xr_getR 41 C cf_X10_32 rfl h38 dX10_skip_38 rfl ?_
  refine xr_iload_n 42 2 C dX10_skip_41 rfl rfl rfl ?_
  refine xr_sipush 45 C (v := 480) dX10_skip_42 (by decide) rfl ?_
  refine xr_imul 46 C dX10_skip_45 rfl ?_
  refine xr_aload_n 47 1 C dX10_skip_46 rfl rfl rfl ?_
  obtain ⟨x47, h47, hf⟩ := mm_bd_e hf
  refine xr_getR 50 C cf_X10_35 rfl h47 dX10_skip_47 rfl ?_
  refine xr_iload_n 51 2 C dX10_skip_50 rfl rfl rfl ?_
  obtain ⟨x51, h51, hf⟩ := mm_bd_e hf
  refine xr_aldI 52 C h51 dX10_skip_51 rfl ?_
  refine xr_iadd 53 C dX10_skip_52 rfl ?_
  refine xr_iload_n 54 0 C dX10_skip_53 rfl rfl rfl ?_
  obtain ⟨M54, h54, hf⟩ := mm_bd_e hf
  refine xr_astI 55 C h54 dX10_skip_54 rfl ?_
  refine xr_aload_n 56 1 C dX10_skip_55 rfl rfl rfl ?_
  obtain ⟨x56, h56, hf⟩ := mm_bd_e hf
  refine xr_getR 59 C cf_X10_35 rfl h56 dX10_skip_56 rfl ?_
  refine xr_iload_n 60 2 C dX10_skip_59 rfl rfl rfl ?_
  refine xr_dup2_11 61 C dX10_skip_60 rfl rfl rfl ?_
  obtain ⟨x61, h61, hf⟩ := mm_bd_e hf
  refine xr_aldI 62 C h61 dX10_skip_61 rfl ?_
  refine xr_iconst 63 C (v := 1) dX10_skip_62 (by decide) rfl ?_
  refine xr_iadd 64 C dX10_skip_63 rfl ?_
  obtain ⟨M64, h64, hf⟩ := mm_bd_e hf
  refine xr_astI 65 C h64 dX10_skip_64 rfl ?_
  refine xr_aload_n 66 1 C dX10_skip_65 rfl rfl rfl ?_
  obtain ⟨x66, h66, hf⟩ := mm_bd_e hf
  refine xr_getR 69 C cf_X10_35 rfl h66 dX10_skip_66 rfl ?_
  refine xr_iload_n 70 2 C dX10_skip_69 rfl rfl rfl ?_
  obtain ⟨x70, h70, hf⟩ := mm_bd_e hf
  refine xr_aldI 71 C h70 dX10_skip_70 rfl ?_
  obtain rfl := Option.some.inj hf
  exact xr_iret C ko ⟨(Nat.le_of_ble_eq_true rfl), (Nat.le_of_ble_eq_true rfl)⟩ dX10_skip_71
noncomputable def f_X10_skip_9 (M : mm_M) (v0 : Option Nat) (v1 : Int32) : Option (Int32 × mm_M) :=
  (mm_fR M v0 11 10).bind fun x10 =>
  (mm_aI M x10 12 v1).bind fun x14 =>
  if x14 = 0 then f_X10_skip_18 M else f_X10_skip_21 M v0 v1
set_option maxRecDepth 20000 in
theorem w_X10_skip_9 {g : mm_c} (C : mm_ok g cX10_skip "LessonCardsModel" (some .int) "skip" 3 1 22 0 0) {M : mm_M} {v0 : Option Nat} {v1 : Int32} {res : Int32 × mm_M} (hf : f_X10_skip_9 M v0 v1 = some res) (ko : (fun z => mm_q g 0 0 (some (mm_i z.1)) z.2) res) : mm_X g 0 0 M 9 [(0, mm_r v0), (1, mm_i v1)] [] := by
  unfold f_X10_skip_9 at hf
  refine xr_aload_n 10 0 C dX10_skip_9 rfl rfl rfl ?_
  obtain ⟨x10, h10, hf⟩ := mm_bd_e hf
  refine xr_getR 13 C cf_X10_35 rfl h10 dX10_skip_10 rfl ?_
  refine xr_iload_n 14 1 C dX10_skip_13 rfl rfl rfl ?_
  obtain ⟨x14, h14, hf⟩ := mm_bd_e hf
  refine xr_aldI 15 C h14 dX10_skip_14 rfl ?_
  refine xr_if_ne 21 18 C dX10_skip_15 (by decide) rfl (fun hc => ?_) (fun hc => ?_)
  · replace hf := (if_neg hc).symm.trans hf
    exact w_X10_skip_21 C hf ko
  · replace hf := (if_pos hc).symm.trans hf
    refine xr_sub [] (lv2 := []) rfl ?_
    exact w_X10_skip_18 C hf ko
noncomputable def f_X10_skip_0 (M : mm_M) (v0 : Option Nat) (v1 : Int32) : Option (Int32 × mm_M) :=
  (f_X10_isPupil M v1).bind fun x1 =>
  if x1 = 0 then f_X10_skip_7 M else f_X10_skip_9 M v0 v1
set_option maxRecDepth 20000 in
theorem w_X10_skip_0 {g : mm_c} (C : mm_ok g cX10_skip "LessonCardsModel" (some .int) "skip" 3 1 22 0 0) {M : mm_M} {v0 : Option Nat} {v1 : Int32} {res : Int32 × mm_M} (hf : f_X10_skip_0 M v0 v1 = some res) (ko : (fun z => mm_q g 0 0 (some (mm_i z.1)) z.2) res) : mm_X g 0 0 M 0 [(0, mm_r v0), (1, mm_i v1)] [] := by
  unfold f_X10_skip_0 at hf
  refine xr_iload_n 1 1 C dX10_skip_0 rfl rfl rfl ?_
  obtain ⟨x1, h1, hf⟩ := mm_bd_e hf
  refine xr_callS 4 C [mm_i v1] cm_X10_190 (fun l G cy => c_X10_isPupil l G cy h1) rfl rfl ⟨⟨Nat.le_of_ble_eq_true rfl, Nat.le_of_ble_eq_true rfl⟩, (Nat.le_of_ble_eq_true rfl), (Nat.le_of_ble_eq_true rfl)⟩ (Nat.le_of_ble_eq_true rfl) dX10_skip_1 rfl ?_
  refine xr_if_ne 9 7 C dX10_skip_4 (by decide) rfl (fun hc => ?_) (fun hc => ?_)
  · replace hf := (if_neg hc).symm.trans hf
    exact w_X10_skip_9 C hf ko
  · replace hf := (if_pos hc).symm.trans hf
    refine xr_sub [] (lv2 := []) rfl ?_
    exact w_X10_skip_7 C hf ko
noncomputable def f_X10_skip (M : mm_M) (v0 : Option Nat) (v1 : Int32) : Option (Int32 × mm_M) := f_X10_skip_0 M v0 v1
theorem c_X10_skip (l : Launch) (G : va_G) (cy : Nat → ClassId) {M : mm_M} {v0 : Option Nat} {v1 : Int32} {r : Int32} {M1 : mm_M} (hf : f_X10_skip M v0 v1 = some (r, M1)) : mm_Met l yX10_skip cX10_skip 3 (some .int) 1 22 0 0 G cy [mm_r v0, mm_i v1] M (some (mm_i r)) M1 :=
  mm_enter (by decide) (Nat.le_of_ble_eq_true rfl) (fun p e R s m args below meth c Q C hq => xr_sub [0, 1] (lv2 := [(0, mm_r v0), (1, mm_i v1)]) rfl (w_X10_skip_0 C hf hq))
def h_X10_bury_60 (g : mm_c) (v0 : Option Nat) (v1 : Int32) (v2 : Int32) (v3 : Int32) : (mm_M × Int32 × Int32) → Prop := fun x => mm_X g 0 0 x.1 60 [(0, mm_r v0), (1, mm_i v1), (2, mm_i v2), (3, mm_i v3), (4, mm_i x.2.1), (5, mm_i x.2.2)] []
noncomputable def f_X10_bury_35 (M : mm_M) : Option (Int32 × mm_M) :=
  some ((-1), M)
set_option maxRecDepth 20000 in
theorem w_X10_bury_35 {g : mm_c} (C : mm_ok g cX10_bury "LessonCardsModel" (some .int) "bury" 6 2 43 0 0) {M : mm_M} {res : Int32 × mm_M} (hf : f_X10_bury_35 M = some res) (ko : (fun z => mm_q g 0 0 (some (mm_i z.1)) z.2) res) : mm_X g 0 0 M 35 [] [] := by
  unfold f_X10_bury_35 at hf
  refine xr_iconst 36 C (v := (-1)) dX10_bury_35 (by decide) rfl ?_
  obtain rfl := Option.some.inj hf
  exact xr_iret C ko ⟨(Nat.le_of_ble_eq_true rfl), (Nat.le_of_ble_eq_true rfl)⟩ dX10_bury_36
noncomputable def f_X10_bury_121 (M : mm_M) (v0 : Option Nat) (v1 : Int32) (v2 : Int32) (v3 : Int32) (v4 : Int32) (v5 : Int32) : Option ((mm_M × Int32 × Int32) ⊕ (Int32 × mm_M)) :=
  some (.inl (M, v4, (v5 + 1)))
set_option maxRecDepth 20000 in
theorem w_X10_bury_121 {g : mm_c} (C : mm_ok g cX10_bury "LessonCardsModel" (some .int) "bury" 6 2 43 0 0) {M : mm_M} {v0 : Option Nat} {v1 : Int32} {v2 : Int32} {v3 : Int32} {v4 : Int32} {v5 : Int32} {res : (mm_M × Int32 × Int32) ⊕ (Int32 × mm_M)} (hf : f_X10_bury_121 M v0 v1 v2 v3 v4 v5 = some res) (ko : (mm_o (h_X10_bury_60 g v0 v1 v2 v3) (fun z => mm_q g 0 0 (some (mm_i z.1)) z.2)) res) : mm_X g 0 0 M 121 [(0, mm_r v0), (1, mm_i v1), (2, mm_i v2), (3, mm_i v3), (4, mm_i v4), (5, mm_i v5)] [] := by
  unfold f_X10_bury_121 at hf
  refine xr_iinc 124 5 C dX10_bury_121 rfl (by decide) (v := 1) (by decide) rfl [(5, mm_i (v5 + 1)), (0, mm_r v0), (1, mm_i v1), (2, mm_i v2), (3, mm_i v3), (4, mm_i v4)] rfl ?_
  refine xr_goto 60 C dX10_bury_124 (by decide) ?_
  refine xr_sub [1, 2, 3, 4, 5, 0] (lv2 := [(0, mm_r v0), (1, mm_i v1), (2, mm_i v2), (3, mm_i v3), (4, mm_i v4), (5, mm_i (v5 + 1))]) rfl ?_
  obtain rfl := Option.some.inj hf
  exact ko
noncomputable def f_X10_bury_92 (M : mm_M) (v0 : Option Nat) (v1 : Int32) (v2 : Int32) (v3 : Int32) (v4 : Int32) (v5 : Int32) : Option ((mm_M × Int32 × Int32) ⊕ (Int32 × mm_M)) :=
  (mm_fR M v0 11 9).bind fun x93 =>
  (mm_fR M v0 11 9).bind fun x105 =>
  (mm_aI M x105 12 ((v1 * 480) + v5)).bind fun x116 =>
  (mm_tI M x93 ((v1 * 480) + v4) x116).bind fun M117 =>
  f_X10_bury_121 M117 v0 v1 v2 v3 (v4 + 1) v5
set_option maxRecDepth 20000 in
theorem w_X10_bury_92 {g : mm_c} (C : mm_ok g cX10_bury "LessonCardsModel" (some .int) "bury" 6 2 43 0 0) {M : mm_M} {v0 : Option Nat} {v1 : Int32} {v2 : Int32} {v3 : Int32} {v4 : Int32} {v5 : Int32} {res : (mm_M × Int32 × Int32) ⊕ (Int32 × mm_M)} (hf : f_X10_bury_92 M v0 v1 v2 v3 v4 v5 = some res) (ko : (mm_o (h_X10_bury_60 g v0 v1 v2 v3) (fun z => mm_q g 0 0 (some (mm_i z.1)) z.2)) res) : mm_X g 0 0 M 92 [(0, mm_r v0), (1, mm_i v1), (2, mm_i v2), (3, mm_i v3), (4, mm_i v4), (5, mm_i v5)] [] := by
  unfold f_X10_bury_92 at hf
  refine xr_aload_n 93 0 C dX10_bury_92 rfl rfl rfl ?_
  obtain ⟨x93, h93, hf⟩ := mm_bd_e hf
  refine xr_getR 96 C cf_X10_32 rfl h93 dX10_bury_93 rfl ?_
  refine xr_iload_n 97 1 C dX10_bury_96 rfl rfl rfl ?_
  refine xr_sipush 100 C (v := 480) dX10_bury_97 (by decide) rfl ?_
  refine xr_imul 101 C dX10_bury_100 rfl ?_
  refine xr_iload 103 4 C dX10_bury_101 rfl rfl ?_
  refine xr_iadd 104 C dX10_bury_103 rfl ?_
  refine xr_aload_n 105 0 C dX10_bury_104 rfl rfl rfl ?_
  obtain ⟨x105, h105, hf⟩ := mm_bd_e hf
  refine xr_getR 108 C cf_X10_32 rfl h105 dX10_bury_105 rfl ?_
  refine xr_iload_n 109 1 C dX10_bury_108 rfl rfl rfl ?_
  refine xr_sipush 112 C (v := 480) dX10_bury_109 (by decide) rfl ?_
  refine xr_imul 113 C dX10_bury_112 rfl ?_
  refine xr_iload 115 5 C dX10_bury_113 rfl rfl ?_
  refine xr_iadd 116 C dX10_bury_115 rfl ?_
  obtain ⟨x116, h116, hf⟩ := mm_bd_e hf
  refine xr_aldI 117 C h116 dX10_bury_116 rfl ?_
  obtain ⟨M117, h117, hf⟩ := mm_bd_e hf
  refine xr_astI 118 C h117 dX10_bury_117 rfl ?_
  refine xr_iinc 121 4 C dX10_bury_118 rfl (by decide) (v := 1) (by decide) rfl [(4, mm_i (v4 + 1)), (0, mm_r v0), (1, mm_i v1), (2, mm_i v2), (3, mm_i v3), (5, mm_i v5)] rfl ?_
  refine xr_sub [1, 2, 3, 4, 0, 5] (lv2 := [(0, mm_r v0), (1, mm_i v1), (2, mm_i v2), (3, mm_i v3), (4, mm_i (v4 + 1)), (5, mm_i v5)]) rfl ?_
  exact w_X10_bury_121 C hf ko
noncomputable def f_X10_bury_71 (M : mm_M) (v0 : Option Nat) (v1 : Int32) (v2 : Int32) (v3 : Int32) (v4 : Int32) (v5 : Int32) : Option ((mm_M × Int32 × Int32) ⊕ (Int32 × mm_M)) :=
  (mm_fR M v0 11 9).bind fun x72 =>
  (mm_aI M x72 12 ((v1 * 480) + v5)).bind fun x83 =>
  if x83 = ((4 * v2) + v3) then f_X10_bury_121 M v0 v1 v2 v3 v4 v5 else f_X10_bury_92 M v0 v1 v2 v3 v4 v5
set_option maxRecDepth 20000 in
theorem w_X10_bury_71 {g : mm_c} (C : mm_ok g cX10_bury "LessonCardsModel" (some .int) "bury" 6 2 43 0 0) {M : mm_M} {v0 : Option Nat} {v1 : Int32} {v2 : Int32} {v3 : Int32} {v4 : Int32} {v5 : Int32} {res : (mm_M × Int32 × Int32) ⊕ (Int32 × mm_M)} (hf : f_X10_bury_71 M v0 v1 v2 v3 v4 v5 = some res) (ko : (mm_o (h_X10_bury_60 g v0 v1 v2 v3) (fun z => mm_q g 0 0 (some (mm_i z.1)) z.2)) res) : mm_X g 0 0 M 71 [(0, mm_r v0), (1, mm_i v1), (2, mm_i v2), (3, mm_i v3), (4, mm_i v4), (5, mm_i v5)] [] := by
  unfold f_X10_bury_71 at hf
  refine xr_aload_n 72 0 C dX10_bury_71 rfl rfl rfl ?_
  obtain ⟨x72, h72, hf⟩ := mm_bd_e hf
  refine xr_getR 75 C cf_X10_32 rfl h72 dX10_bury_72 rfl ?_
  refine xr_iload_n 76 1 C dX10_bury_75 rfl rfl rfl ?_
  refine xr_sipush 79 C (v := 480) dX10_bury_76 (by decide) rfl ?_
  refine xr_imul 80 C dX10_bury_79 rfl ?_
  refine xr_iload 82 5 C dX10_bury_80 rfl rfl ?_
  refine xr_iadd 83 C dX10_bury_82 rfl ?_
  obtain ⟨x83, h83, hf⟩ := mm_bd_e hf
  refine xr_aldI 84 C h83 dX10_bury_83 rfl ?_
  refine xr_iconst 85 C (v := 4) dX10_bury_84 (by decide) rfl ?_
  refine xr_iload_n 86 2 C dX10_bury_85 rfl rfl rfl ?_
  refine xr_imul 87 C dX10_bury_86 rfl ?_
  refine xr_iload_n 88 3 C dX10_bury_87 rfl rfl rfl ?_
  refine xr_iadd 89 C dX10_bury_88 rfl ?_
  refine xr_icmp_eq 121 92 C dX10_bury_89 (by decide) rfl (fun hc => ?_) (fun hc => ?_)
  · replace hf := (if_pos hc).symm.trans hf
    exact w_X10_bury_121 C hf ko
  · replace hf := (if_neg hc).symm.trans hf
    exact w_X10_bury_92 C hf ko
noncomputable def f_X10_bury_127 (M : mm_M) (v0 : Option Nat) (v1 : Int32) (v4 : Int32) : Option (Int32 × mm_M) :=
  (mm_fR M v0 11 10).bind fun x128 =>
  (mm_tI M x128 v1 v4).bind fun M134 =>
  some (v4, M134)
set_option maxRecDepth 20000 in
theorem w_X10_bury_127 {g : mm_c} (C : mm_ok g cX10_bury "LessonCardsModel" (some .int) "bury" 6 2 43 0 0) {M : mm_M} {v0 : Option Nat} {v1 : Int32} {v4 : Int32} {res : Int32 × mm_M} (hf : f_X10_bury_127 M v0 v1 v4 = some res) (ko : (fun z => mm_q g 0 0 (some (mm_i z.1)) z.2) res) : mm_X g 0 0 M 127 [(0, mm_r v0), (1, mm_i v1), (4, mm_i v4)] [] := by
  unfold f_X10_bury_127 at hf
  refine xr_aload_n 128 0 C dX10_bury_127 rfl rfl rfl ?_
  obtain ⟨x128, h128, hf⟩ := mm_bd_e hf
  refine xr_getR 131 C cf_X10_35 rfl h128 dX10_bury_128 rfl ?_
  refine xr_iload_n 132 1 C dX10_bury_131 rfl rfl rfl ?_
  refine xr_iload 134 2 C dX10_bury_132 rfl rfl ?_
  obtain ⟨M134, h134, hf⟩ := mm_bd_e hf
  refine xr_astI 135 C h134 dX10_bury_134 rfl ?_
  refine xr_iload 137 2 C dX10_bury_135 rfl rfl ?_
  obtain rfl := Option.some.inj hf
  exact xr_iret C ko ⟨(Nat.le_of_ble_eq_true rfl), (Nat.le_of_ble_eq_true rfl)⟩ dX10_bury_137
noncomputable def f_X10_bury_60 (M : mm_M) (v0 : Option Nat) (v1 : Int32) (v2 : Int32) (v3 : Int32) (v4 : Int32) (v5 : Int32) : Option ((mm_M × Int32 × Int32) ⊕ (Int32 × mm_M)) :=
  (mm_fR M v0 11 10).bind fun x63 =>
  (mm_aI M x63 12 v1).bind fun x67 =>
  if x67 ≤ v5 then mm_mp (f_X10_bury_127 M v0 v1 v4) else f_X10_bury_71 M v0 v1 v2 v3 v4 v5
set_option maxRecDepth 20000 in
theorem w_X10_bury_60 {g : mm_c} (C : mm_ok g cX10_bury "LessonCardsModel" (some .int) "bury" 6 2 43 0 0) {M : mm_M} {v0 : Option Nat} {v1 : Int32} {v2 : Int32} {v3 : Int32} {v4 : Int32} {v5 : Int32} {res : (mm_M × Int32 × Int32) ⊕ (Int32 × mm_M)} (hf : f_X10_bury_60 M v0 v1 v2 v3 v4 v5 = some res) (ko : (mm_o (h_X10_bury_60 g v0 v1 v2 v3) (fun z => mm_q g 0 0 (some (mm_i z.1)) z.2)) res) : mm_X g 0 0 M 60 [(0, mm_r v0), (1, mm_i v1), (2, mm_i v2), (3, mm_i v3), (4, mm_i v4), (5, mm_i v5)] [] := by
  unfold f_X10_bury_60 at hf
  refine xr_iload 62 5 C dX10_bury_60 rfl rfl ?_
  refine xr_aload_n 63 0 C dX10_bury_62 rfl rfl rfl ?_
  obtain ⟨x63, h63, hf⟩ := mm_bd_e hf
  refine xr_getR 66 C cf_X10_35 rfl h63 dX10_bury_63 rfl ?_
  refine xr_iload_n 67 1 C dX10_bury_66 rfl rfl rfl ?_
  obtain ⟨x67, h67, hf⟩ := mm_bd_e hf
  refine xr_aldI 68 C h67 dX10_bury_67 rfl ?_
  refine xr_icmp_ge 127 71 C dX10_bury_68 (by decide) rfl (fun hc => ?_) (fun hc => ?_)
  · replace hf := (if_pos hc).symm.trans hf
    refine xr_sub [0, 1, 4] (lv2 := [(0, mm_r v0), (1, mm_i v1), (4, mm_i v4)]) rfl ?_
    obtain ⟨z, hf2, rfl⟩ := mm_mp_e hf
    clear hf
    have hf := hf2
    clear hf2
    exact w_X10_bury_127 C hf ko
  · replace hf := (if_neg hc).symm.trans hf
    exact w_X10_bury_71 C hf ko
noncomputable def f_X10_bury_60w (M : mm_M) (v0 : Option Nat) (v1 : Int32) (v2 : Int32) (v3 : Int32) (v4 : Int32) (v5 : Int32) : Option (Int32 × mm_M) := mm_w (fun x => f_X10_bury_60 x.1 v0 v1 v2 v3 x.2.1 x.2.2) (M, v4, v5)
theorem l_X10_bury_60 {g : mm_c} (C : mm_ok g cX10_bury "LessonCardsModel" (some .int) "bury" 6 2 43 0 0) {M : mm_M} {v0 : Option Nat} {v1 : Int32} {v2 : Int32} {v3 : Int32} {v4 : Int32} {v5 : Int32} {res : Int32 × mm_M} (hf : f_X10_bury_60w M v0 v1 v2 v3 v4 v5 = some res) (ko : (fun z => mm_q g 0 0 (some (mm_i z.1)) z.2) res) : mm_X g 0 0 M 60 [(0, mm_r v0), (1, mm_i v1), (2, mm_i v2), (3, mm_i v3), (4, mm_i v4), (5, mm_i v5)] [] :=
  mm_w_W (body := fun x => f_X10_bury_60 x.1 v0 v1 v2 v3 x.2.1 x.2.2) (Wh := h_X10_bury_60 g v0 v1 v2 v3) (ok := (fun z => mm_q g 0 0 (some (mm_i z.1)) z.2)) (x := (M, v4, v5)) (fun x r hb ho => w_X10_bury_60 C hb ho) hf ko
noncomputable def f_X10_bury_37 (M : mm_M) (v0 : Option Nat) (v1 : Int32) (v2 : Int32) (v3 : Int32) : Option (Int32 × mm_M) :=
  (mm_fR M v0 11 12).bind fun x38 =>
  (mm_tZ M x38 (((v1 * 480) + (4 * v2)) + v3) 1).bind fun M53 =>
  f_X10_bury_60w M53 v0 v1 v2 v3 0 0
set_option maxRecDepth 20000 in
theorem w_X10_bury_37 {g : mm_c} (C : mm_ok g cX10_bury "LessonCardsModel" (some .int) "bury" 6 2 43 0 0) {M : mm_M} {v0 : Option Nat} {v1 : Int32} {v2 : Int32} {v3 : Int32} {res : Int32 × mm_M} (hf : f_X10_bury_37 M v0 v1 v2 v3 = some res) (ko : (fun z => mm_q g 0 0 (some (mm_i z.1)) z.2) res) : mm_X g 0 0 M 37 [(0, mm_r v0), (1, mm_i v1), (2, mm_i v2), (3, mm_i v3)] [] := by
  unfold f_X10_bury_37 at hf
  refine xr_aload_n 38 0 C dX10_bury_37 rfl rfl rfl ?_
  obtain ⟨x38, h38, hf⟩ := mm_bd_e hf
  refine xr_getR 41 C cf_X10_41 rfl h38 dX10_bury_38 rfl ?_
  refine xr_iload_n 42 1 C dX10_bury_41 rfl rfl rfl ?_
  refine xr_sipush 45 C (v := 480) dX10_bury_42 (by decide) rfl ?_
  refine xr_imul 46 C dX10_bury_45 rfl ?_
  refine xr_iconst 47 C (v := 4) dX10_bury_46 (by decide) rfl ?_
  refine xr_iload_n 48 2 C dX10_bury_47 rfl rfl rfl ?_
  refine xr_imul 49 C dX10_bury_48 rfl ?_
  refine xr_iadd 50 C dX10_bury_49 rfl ?_
  refine xr_iload_n 51 3 C dX10_bury_50 rfl rfl rfl ?_
  refine xr_iadd 52 C dX10_bury_51 rfl ?_
  refine xr_iconst 53 C (v := 1) dX10_bury_52 (by decide) rfl ?_
  obtain ⟨M53, h53, hf⟩ := mm_bd_e hf
  refine xr_astZ 54 C h53 dX10_bury_53 rfl ?_
  refine xr_iconst 55 C (v := 0) dX10_bury_54 (by decide) rfl ?_
  refine xr_istore 57 C dX10_bury_55 (by decide) rfl [(4, mm_i 0), (0, mm_r v0), (1, mm_i v1), (2, mm_i v2), (3, mm_i v3)] rfl ?_
  refine xr_iconst 58 C (v := 0) dX10_bury_57 (by decide) rfl ?_
  refine xr_istore 60 C dX10_bury_58 (by decide) rfl [(5, mm_i 0), (4, mm_i 0), (0, mm_r v0), (1, mm_i v1), (2, mm_i v2), (3, mm_i v3)] rfl ?_
  refine xr_sub [2, 3, 4, 5, 1, 0] (lv2 := [(0, mm_r v0), (1, mm_i v1), (2, mm_i v2), (3, mm_i v3), (4, mm_i 0), (5, mm_i 0)]) rfl ?_
  exact l_X10_bury_60 C hf ko
noncomputable def f_X10_bury_16 (M : mm_M) (v0 : Option Nat) (v1 : Int32) (v2 : Int32) (v3 : Int32) : Option (Int32 × mm_M) :=
  (mm_fR M v0 11 12).bind fun x17 =>
  (mm_aI M x17 14 (((v1 * 480) + (4 * v2)) + v3)).bind fun x31 =>
  if x31 = 0 then f_X10_bury_37 M v0 v1 v2 v3 else f_X10_bury_35 M
set_option maxRecDepth 20000 in
theorem w_X10_bury_16 {g : mm_c} (C : mm_ok g cX10_bury "LessonCardsModel" (some .int) "bury" 6 2 43 0 0) {M : mm_M} {v0 : Option Nat} {v1 : Int32} {v2 : Int32} {v3 : Int32} {res : Int32 × mm_M} (hf : f_X10_bury_16 M v0 v1 v2 v3 = some res) (ko : (fun z => mm_q g 0 0 (some (mm_i z.1)) z.2) res) : mm_X g 0 0 M 16 [(0, mm_r v0), (1, mm_i v1), (2, mm_i v2), (3, mm_i v3)] [] := by
  unfold f_X10_bury_16 at hf
  refine xr_aload_n 17 0 C dX10_bury_16 rfl rfl rfl ?_
  obtain ⟨x17, h17, hf⟩ := mm_bd_e hf
  refine xr_getR 20 C cf_X10_41 rfl h17 dX10_bury_17 rfl ?_
  refine xr_iload_n 21 1 C dX10_bury_20 rfl rfl rfl ?_
  refine xr_sipush 24 C (v := 480) dX10_bury_21 (by decide) rfl ?_
  refine xr_imul 25 C dX10_bury_24 rfl ?_
  refine xr_iconst 26 C (v := 4) dX10_bury_25 (by decide) rfl ?_
  refine xr_iload_n 27 2 C dX10_bury_26 rfl rfl rfl ?_
  refine xr_imul 28 C dX10_bury_27 rfl ?_
  refine xr_iadd 29 C dX10_bury_28 rfl ?_
  refine xr_iload_n 30 3 C dX10_bury_29 rfl rfl rfl ?_
  refine xr_iadd 31 C dX10_bury_30 rfl ?_
  obtain ⟨x31, h31, hf⟩ := mm_bd_e hf
  refine xr_aldZ 32 C h31 dX10_bury_31 rfl ?_
  refine xr_if_eq 37 35 C dX10_bury_32 (by decide) rfl (fun hc => ?_) (fun hc => ?_)
  · replace hf := (if_pos hc).symm.trans hf
    exact w_X10_bury_37 C hf ko
  · replace hf := (if_neg hc).symm.trans hf
    refine xr_sub [] (lv2 := []) rfl ?_
    exact w_X10_bury_35 C hf ko
noncomputable def f_X10_bury_7 (M : mm_M) (v0 : Option Nat) (v1 : Int32) (v2 : Int32) (v3 : Int32) : Option (Int32 × mm_M) :=
  (mm_rc M v0 11).bind fun u10 =>
  (f_X10_isSide M v0 v2 v3).bind fun x10 =>
  if x10 = 0 then f_X10_bury_35 M else f_X10_bury_16 M v0 v1 v2 v3
set_option maxRecDepth 20000 in
theorem w_X10_bury_7 {g : mm_c} (C : mm_ok g cX10_bury "LessonCardsModel" (some .int) "bury" 6 2 43 0 0) {M : mm_M} {v0 : Option Nat} {v1 : Int32} {v2 : Int32} {v3 : Int32} {res : Int32 × mm_M} (hf : f_X10_bury_7 M v0 v1 v2 v3 = some res) (ko : (fun z => mm_q g 0 0 (some (mm_i z.1)) z.2) res) : mm_X g 0 0 M 7 [(0, mm_r v0), (1, mm_i v1), (2, mm_i v2), (3, mm_i v3)] [] := by
  unfold f_X10_bury_7 at hf
  refine xr_aload_n 8 0 C dX10_bury_7 rfl rfl rfl ?_
  refine xr_iload_n 9 2 C dX10_bury_8 rfl rfl rfl ?_
  refine xr_iload_n 10 3 C dX10_bury_9 rfl rfl rfl ?_
  obtain ⟨u10, g10, hf⟩ := mm_bd_e hf
  obtain ⟨x10, h10, hf⟩ := mm_bd_e hf
  refine xr_callV 13 C [mm_i v2, mm_i v3] cm_X10_220 (fun l G cy => c_X10_isSide l G cy h10) g10 rfl rfl ⟨⟨Nat.le_of_ble_eq_true rfl, Nat.le_of_ble_eq_true rfl⟩, (Nat.le_of_ble_eq_true rfl), (Nat.le_of_ble_eq_true rfl)⟩ (Nat.le_of_ble_eq_true rfl) dX10_bury_10 rfl ?_
  refine xr_if_eq 35 16 C dX10_bury_13 (by decide) rfl (fun hc => ?_) (fun hc => ?_)
  · replace hf := (if_pos hc).symm.trans hf
    refine xr_sub [] (lv2 := []) rfl ?_
    exact w_X10_bury_35 C hf ko
  · replace hf := (if_neg hc).symm.trans hf
    exact w_X10_bury_16 C hf ko
noncomputable def f_X10_bury_0 (M : mm_M) (v0 : Option Nat) (v1 : Int32) (v2 : Int32) (v3 : Int32) : Option (Int32 × mm_M) :=
  (f_X10_isPupil M v1).bind fun x1 =>
  if x1 = 0 then f_X10_bury_35 M else f_X10_bury_7 M v0 v1 v2 v3
set_option maxRecDepth 20000 in
theorem w_X10_bury_0 {g : mm_c} (C : mm_ok g cX10_bury "LessonCardsModel" (some .int) "bury" 6 2 43 0 0) {M : mm_M} {v0 : Option Nat} {v1 : Int32} {v2 : Int32} {v3 : Int32} {res : Int32 × mm_M} (hf : f_X10_bury_0 M v0 v1 v2 v3 = some res) (ko : (fun z => mm_q g 0 0 (some (mm_i z.1)) z.2) res) : mm_X g 0 0 M 0 [(0, mm_r v0), (1, mm_i v1), (2, mm_i v2), (3, mm_i v3)] [] := by
  unfold f_X10_bury_0 at hf
  refine xr_iload_n 1 1 C dX10_bury_0 rfl rfl rfl ?_
  obtain ⟨x1, h1, hf⟩ := mm_bd_e hf
  refine xr_callS 4 C [mm_i v1] cm_X10_190 (fun l G cy => c_X10_isPupil l G cy h1) rfl rfl ⟨⟨Nat.le_of_ble_eq_true rfl, Nat.le_of_ble_eq_true rfl⟩, (Nat.le_of_ble_eq_true rfl), (Nat.le_of_ble_eq_true rfl)⟩ (Nat.le_of_ble_eq_true rfl) dX10_bury_1 rfl ?_
  refine xr_if_eq 35 7 C dX10_bury_4 (by decide) rfl (fun hc => ?_) (fun hc => ?_)
  · replace hf := (if_pos hc).symm.trans hf
    refine xr_sub [] (lv2 := []) rfl ?_
    exact w_X10_bury_35 C hf ko
  · replace hf := (if_neg hc).symm.trans hf
    exact w_X10_bury_7 C hf ko
noncomputable def f_X10_bury (M : mm_M) (v0 : Option Nat) (v1 : Int32) (v2 : Int32) (v3 : Int32) : Option (Int32 × mm_M) := f_X10_bury_0 M v0 v1 v2 v3
theorem c_X10_bury (l : Launch) (G : va_G) (cy : Nat → ClassId) {M : mm_M} {v0 : Option Nat} {v1 : Int32} {v2 : Int32} {v3 : Int32} {r : Int32} {M1 : mm_M} (hf : f_X10_bury M v0 v1 v2 v3 = some (r, M1)) : mm_Met l yX10_bury cX10_bury 6 (some .int) 2 43 0 0 G cy [mm_r v0, mm_i v1, mm_i v2, mm_i v3] M (some (mm_i r)) M1 :=
  mm_enter (by decide) (Nat.le_of_ble_eq_true rfl) (fun p e R s m args below meth c Q C hq => xr_sub [0, 1, 2, 3] (lv2 := [(0, mm_r v0), (1, mm_i v1), (2, mm_i v2), (3, mm_i v3)]) rfl (w_X10_bury_0 C hf hq))
noncomputable def f_X10_undo_7 (M : mm_M) : Option (Int32 × mm_M) :=
  some ((-4), M)
set_option maxRecDepth 20000 in
theorem w_X10_undo_7 {g : mm_c} (C : mm_ok g cX10_undo "LessonCardsModel" (some .int) "undo" 2 1 21 0 0) {M : mm_M} {res : Int32 × mm_M} (hf : f_X10_undo_7 M = some res) (ko : (fun z => mm_q g 0 0 (some (mm_i z.1)) z.2) res) : mm_X g 0 0 M 7 [] [] := by
  unfold f_X10_undo_7 at hf
  refine xr_bipush 9 C (v := (-4)) dX10_undo_7 (by decide) rfl ?_
  obtain rfl := Option.some.inj hf
  exact xr_iret C ko ⟨(Nat.le_of_ble_eq_true rfl), (Nat.le_of_ble_eq_true rfl)⟩ dX10_undo_9
noncomputable def f_X10_undo_10 (M : mm_M) (v0 : Option Nat) : Option (Int32 × mm_M) :=
  (mm_fI M v0 11 28).bind fun x12 =>
  (mm_pI M v0 11 28 (x12 - 1)).bind fun M17 =>
  (mm_fR M17 v0 11 18).bind fun x21 =>
  (mm_fI M17 v0 11 28).bind fun x25 =>
  (mm_aI M17 x21 12 x25).bind fun x28 =>
  (mm_fR M17 v0 11 23).bind fun x32 =>
  (mm_fI M17 v0 11 28).bind fun x36 =>
  (mm_aI M17 x32 12 x36).bind fun x39 =>
  (mm_pI M17 v0 11 29 x39).bind fun M40 =>
  (mm_fR M40 v0 11 24).bind fun x45 =>
  (mm_fI M40 v0 11 28).bind fun x49 =>
  (mm_aI M40 x45 12 x49).bind fun x52 =>
  (mm_pI M40 v0 11 30 x52).bind fun M53 =>
  (mm_fR M53 v0 11 25).bind fun x58 =>
  (mm_fI M53 v0 11 28).bind fun x62 =>
  (mm_aI M53 x58 12 x62).bind fun x65 =>
  (mm_pI M53 v0 11 31 x65).bind fun M66 =>
  (mm_fR M66 v0 11 26).bind fun x71 =>
  (mm_fI M66 v0 11 28).bind fun x75 =>
  (mm_aI M66 x71 12 x75).bind fun x78 =>
  (mm_pI M66 v0 11 32 x78).bind fun M79 =>
  (mm_fR M79 v0 11 27).bind fun x84 =>
  (mm_fI M79 v0 11 28).bind fun x88 =>
  (mm_aI M79 x84 12 x88).bind fun x91 =>
  (mm_pI M79 v0 11 33 x91).bind fun M92 =>
  (mm_rc M92 v0 11).bind fun u97 =>
  (f_X10_give M92 v0 x28).bind fun M97 =>
  (mm_fR M97 v0 11 10).bind fun x101 =>
  (mm_tI M97 x101 (x28 / 480) 0).bind fun M110 =>
  (mm_fI M110 v0 11 28).bind fun x112 =>
  some (x112, M110)
set_option maxRecDepth 20000 in
theorem w_X10_undo_10 {g : mm_c} (C : mm_ok g cX10_undo "LessonCardsModel" (some .int) "undo" 2 1 21 0 0) {M : mm_M} {v0 : Option Nat} {res : Int32 × mm_M} (hf : f_X10_undo_10 M v0 = some res) (ko : (fun z => mm_q g 0 0 (some (mm_i z.1)) z.2) res) : mm_X g 0 0 M 10 [(0, mm_r v0)] [] := by
  unfold f_X10_undo_10 at hf
  refine xr_aload_n 11 0 C dX10_undo_10 rfl rfl rfl ?_
  refine xr_dup 12 C dX10_undo_11 rfl rfl ?_
  obtain ⟨x12, h12, hf⟩ := mm_bd_e hf
  refine xr_getI 15 C cf_X10_207 rfl h12 dX10_undo_12 rfl ?_
  refine xr_iconst 16 C (v := 1) dX10_undo_15 (by decide) rfl ?_
  refine xr_isub 17 C dX10_undo_16 rfl ?_
  obtain ⟨M17, h17, hf⟩ := mm_bd_e hf
  refine xr_putI 20 C cf_X10_207 (fun h => by cases h) h17 dX10_undo_17 rfl ?_
  refine xr_aload_n 21 0 C dX10_undo_20 rfl rfl rfl ?_
  obtain ⟨x21, h21, hf⟩ := mm_bd_e hf
  refine xr_getR 24 C cf_X10_60 rfl h21 dX10_undo_21 rfl ?_
  refine xr_aload_n 25 0 C dX10_undo_24 rfl rfl rfl ?_
  obtain ⟨x25, h25, hf⟩ := mm_bd_e hf
  refine xr_getI 28 C cf_X10_207 rfl h25 dX10_undo_25 rfl ?_
  obtain ⟨x28, h28, hf⟩ := mm_bd_e hf
  refine xr_aldI 29 C h28 dX10_undo_28 rfl ?_
  refine xr_istore_n 30 C dX10_undo_29 rfl (by decide) rfl [(1, mm_i x28), (0, mm_r v0)] rfl ?_
  refine xr_aload_n 31 1 C dX10_undo_30 rfl rfl rfl ?_
  refine xr_aload_n 32 1 C dX10_undo_31 rfl rfl rfl ?_
  obtain ⟨x32, h32, hf⟩ := mm_bd_e hf
  refine xr_getR 35 C cf_X10_75 rfl h32 dX10_undo_32 rfl ?_
  refine xr_aload_n 36 1 C dX10_undo_35 rfl rfl rfl ?_
  obtain ⟨x36, h36, hf⟩ := mm_bd_e hf
  refine xr_getI 39 C cf_X10_207 rfl h36 dX10_undo_36 rfl ?_
  obtain ⟨x39, h39, hf⟩ := mm_bd_e hf
  refine xr_aldI 40 C h39 dX10_undo_39 rfl ?_
  obtain ⟨M40, h40, hf⟩ := mm_bd_e hf
  refine xr_putI 43 C cf_X10_135 (fun h => by cases h) h40 dX10_undo_40 rfl ?_
  refine xr_aload_n 44 1 C dX10_undo_43 rfl rfl rfl ?_
  refine xr_aload_n 45 1 C dX10_undo_44 rfl rfl rfl ?_
  obtain ⟨x45, h45, hf⟩ := mm_bd_e hf
  refine xr_getR 48 C cf_X10_78 rfl h45 dX10_undo_45 rfl ?_
  refine xr_aload_n 49 1 C dX10_undo_48 rfl rfl rfl ?_
  obtain ⟨x49, h49, hf⟩ := mm_bd_e hf
  refine xr_getI 52 C cf_X10_207 rfl h49 dX10_undo_49 rfl ?_
  obtain ⟨x52, h52, hf⟩ := mm_bd_e hf
  refine xr_aldI 53 C h52 dX10_undo_52 rfl ?_
  obtain ⟨M53, h53, hf⟩ := mm_bd_e hf
  refine xr_putI 56 C cf_X10_138 (fun h => by cases h) h53 dX10_undo_53 rfl ?_
  refine xr_aload_n 57 1 C dX10_undo_56 rfl rfl rfl ?_
  refine xr_aload_n 58 1 C dX10_undo_57 rfl rfl rfl ?_
  obtain ⟨x58, h58, hf⟩ := mm_bd_e hf
  refine xr_getR 61 C cf_X10_81 rfl h58 dX10_undo_58 rfl ?_
  refine xr_aload_n 62 1 C dX10_undo_61 rfl rfl rfl ?_
  obtain ⟨x62, h62, hf⟩ := mm_bd_e hf
  refine xr_getI 65 C cf_X10_207 rfl h62 dX10_undo_62 rfl ?_
  obtain ⟨x65, h65, hf⟩ := mm_bd_e hf
  refine xr_aldI 66 C h65 dX10_undo_65 rfl ?_
  obtain ⟨M66, h66, hf⟩ := mm_bd_e hf
  refine xr_putI 69 C cf_X10_141 (fun h => by cases h) h66 dX10_undo_66 rfl ?_
  refine xr_aload_n 70 1 C dX10_undo_69 rfl rfl rfl ?_
  refine xr_aload_n 71 1 C dX10_undo_70 rfl rfl rfl ?_
  obtain ⟨x71, h71, hf⟩ := mm_bd_e hf
  refine xr_getR 74 C cf_X10_84 rfl h71 dX10_undo_71 rfl ?_
  refine xr_aload_n 75 1 C dX10_undo_74 rfl rfl rfl ?_
  obtain ⟨x75, h75, hf⟩ := mm_bd_e hf
  refine xr_getI 78 C cf_X10_207 rfl h75 dX10_undo_75 rfl ?_
  obtain ⟨x78, h78, hf⟩ := mm_bd_e hf
  refine xr_aldI 79 C h78 dX10_undo_78 rfl ?_
  obtain ⟨M79, h79, hf⟩ := mm_bd_e hf
  refine xr_putI 82 C cf_X10_144 (fun h => by cases h) h79 dX10_undo_79 rfl ?_
  refine xr_aload_n 83 1 C dX10_undo_82 rfl rfl rfl ?_
  refine xr_aload_n 84 1 C dX10_undo_83 rfl rfl rfl ?_
  obtain ⟨x84, h84, hf⟩ := mm_bd_e hf
  refine xr_getR 87 C cf_X10_87 rfl h84 dX10_undo_84 rfl ?_
  refine xr_aload_n 88 1 C dX10_undo_87 rfl rfl rfl ?_
  obtain ⟨x88, h88, hf⟩ := mm_bd_e hf
  refine xr_getI 91 C cf_X10_207 rfl h88 dX10_undo_88 rfl ?_
  obtain ⟨x91, h91, hf⟩ := mm_bd_e hf
  refine xr_aldI 92 C h91 dX10_undo_91 rfl ?_
  obtain ⟨M92, h92, hf⟩ := mm_bd_e hf
  refine xr_putI 95 C cf_X10_147 (fun h => by cases h) h92 dX10_undo_92 rfl ?_
  refine xr_aload_n 96 1 C dX10_undo_95 rfl rfl rfl ?_
  refine xr_iload_n 97 0 C dX10_undo_96 rfl rfl rfl ?_
  obtain ⟨u97, g97, hf⟩ := mm_bd_e hf
  obtain ⟨M97, h97, hf⟩ := mm_bd_e hf
  refine xr_callV 100 C [mm_i x28] cm_X10_214 (fun l G cy => c_X10_give l G cy h97) g97 rfl rfl ⟨⟨Nat.le_of_ble_eq_true rfl, Nat.le_of_ble_eq_true rfl⟩, (Nat.le_of_ble_eq_true rfl), (Nat.le_of_ble_eq_true rfl)⟩ (Nat.le_of_ble_eq_true rfl) dX10_undo_97 rfl ?_
  refine xr_aload_n 101 1 C dX10_undo_100 rfl rfl rfl ?_
  obtain ⟨x101, h101, hf⟩ := mm_bd_e hf
  refine xr_getR 104 C cf_X10_35 rfl h101 dX10_undo_101 rfl ?_
  refine xr_iload_n 105 0 C dX10_undo_104 rfl rfl rfl ?_
  refine xr_sipush 108 C (v := 480) dX10_undo_105 (by decide) rfl ?_
  refine xr_idiv 109 C dX10_undo_108 (by decide) rfl ?_
  refine xr_iconst 110 C (v := 0) dX10_undo_109 (by decide) rfl ?_
  obtain ⟨M110, h110, hf⟩ := mm_bd_e hf
  refine xr_astI 111 C h110 dX10_undo_110 rfl ?_
  refine xr_aload_n 112 1 C dX10_undo_111 rfl rfl rfl ?_
  obtain ⟨x112, h112, hf⟩ := mm_bd_e hf
  refine xr_getI 115 C cf_X10_207 rfl h112 dX10_undo_112 rfl ?_
  obtain rfl := Option.some.inj hf
  exact xr_iret C ko ⟨(Nat.le_of_ble_eq_true rfl), (Nat.le_of_ble_eq_true rfl)⟩ dX10_undo_115
noncomputable def f_X10_undo_0 (M : mm_M) (v0 : Option Nat) : Option (Int32 × mm_M) :=
  (mm_fI M v0 11 28).bind fun x1 =>
  if x1 = 0 then f_X10_undo_7 M else f_X10_undo_10 M v0
set_option maxRecDepth 20000 in
theorem w_X10_undo_0 {g : mm_c} (C : mm_ok g cX10_undo "LessonCardsModel" (some .int) "undo" 2 1 21 0 0) {M : mm_M} {v0 : Option Nat} {res : Int32 × mm_M} (hf : f_X10_undo_0 M v0 = some res) (ko : (fun z => mm_q g 0 0 (some (mm_i z.1)) z.2) res) : mm_X g 0 0 M 0 [(0, mm_r v0)] [] := by
  unfold f_X10_undo_0 at hf
  refine xr_aload_n 1 0 C dX10_undo_0 rfl rfl rfl ?_
  obtain ⟨x1, h1, hf⟩ := mm_bd_e hf
  refine xr_getI 4 C cf_X10_207 rfl h1 dX10_undo_1 rfl ?_
  refine xr_if_ne 10 7 C dX10_undo_4 (by decide) rfl (fun hc => ?_) (fun hc => ?_)
  · replace hf := (if_neg hc).symm.trans hf
    exact w_X10_undo_10 C hf ko
  · replace hf := (if_pos hc).symm.trans hf
    refine xr_sub [] (lv2 := []) rfl ?_
    exact w_X10_undo_7 C hf ko
noncomputable def f_X10_undo (M : mm_M) (v0 : Option Nat) : Option (Int32 × mm_M) := f_X10_undo_0 M v0
theorem c_X10_undo (l : Launch) (G : va_G) (cy : Nat → ClassId) {M : mm_M} {v0 : Option Nat} {r : Int32} {M1 : mm_M} (hf : f_X10_undo M v0 = some (r, M1)) : mm_Met l yX10_undo cX10_undo 2 (some .int) 1 21 0 0 G cy [mm_r v0] M (some (mm_i r)) M1 :=
  mm_enter (by decide) (Nat.le_of_ble_eq_true rfl) (fun p e R s m args below meth c Q C hq => xr_sub [0] (lv2 := [(0, mm_r v0)]) rfl (w_X10_undo_0 C hf hq))
