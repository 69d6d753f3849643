def h_X10_check_17 (g : mm_c) (v0 : Option Nat) (v1 : Int32) : (mm_M × Int32 × Int32) → Prop := fun x => mm_X g 0 0 x.1 17 [(0, mm_r v0), (1, mm_i v1), (2, mm_i x.2.1), (3, mm_i x.2.2)] []
noncomputable def f_X10_check_7 (M : mm_M) : Option (Int32 × mm_M) :=
  some ((-1), M)
set_option maxRecDepth 20000 in
theorem w_X10_check_7 {g : mm_c} (C : mm_ok g cX10_check "LessonCardsModel" (some .int) "check" 6 4 102 0 0) {M : mm_M} {res : Int32 × mm_M} (hf : f_X10_check_7 M = some res) (ko : (fun z => mm_q g 0 0 (some (mm_i z.1)) z.2) res) : mm_X g 0 0 M 7 [] [] := by
  unfold f_X10_check_7 at hf
  refine xr_iconst 8 C (v := (-1)) dX10_check_7 (by decide) rfl ?_
  obtain rfl := Option.some.inj hf
  exact xr_iret C ko ⟨(Nat.le_of_ble_eq_true rfl), (Nat.le_of_ble_eq_true rfl)⟩ dX10_check_8
noncomputable def f_X10_check_110 (M : mm_M) (v0 : Option Nat) (v1 : Int32) (v3 : Int32) (s0 : Int32) : Option ((mm_M × Int32 × Int32) ⊕ (Int32 × mm_M)) :=
  some (.inl (M, s0, (v3 + 1)))
set_option maxRecDepth 20000 in
theorem w_X10_check_110 {g : mm_c} (C : mm_ok g cX10_check "LessonCardsModel" (some .int) "check" 6 4 102 0 0) {M : mm_M} {v0 : Option Nat} {v1 : Int32} {v3 : Int32} {s0 : Int32} {res : (mm_M × Int32 × Int32) ⊕ (Int32 × mm_M)} (hf : f_X10_check_110 M v0 v1 v3 s0 = some res) (ko : (mm_o (h_X10_check_17 g v0 v1) (fun z => mm_q g 0 0 (some (mm_i z.1)) z.2)) res) : mm_X g 0 0 M 110 [(0, mm_r v0), (1, mm_i v1), (3, mm_i v3)] [mm_i s0] := by
  unfold f_X10_check_110 at hf
  refine xr_istore_n 111 C dX10_check_110 rfl (by decide) rfl [(2, mm_i s0), (0, mm_r v0), (1, mm_i v1), (3, mm_i v3)] rfl ?_
  refine xr_iinc 114 3 C dX10_check_111 rfl (by decide) (v := 1) (by decide) rfl [(3, mm_i (v3 + 1)), (2, mm_i s0), (0, mm_r v0), (1, mm_i v1)] rfl ?_
  refine xr_goto 17 C dX10_check_114 (by decide) ?_
  refine xr_sub [2, 3, 1, 0] (lv2 := [(0, mm_r v0), (1, mm_i v1), (2, mm_i s0), (3, mm_i (v3 + 1))]) rfl ?_
  obtain rfl := Option.some.inj hf
  exact ko
noncomputable def f_X10_check_105 (M : mm_M) (v0 : Option Nat) (v1 : Int32) (v3 : Int32) : Option ((mm_M × Int32 × Int32) ⊕ (Int32 × mm_M)) :=
  f_X10_check_110 M v0 v1 v3 1
set_option maxRecDepth 20000 in
theorem w_X10_check_105 {g : mm_c} (C : mm_ok g cX10_check "LessonCardsModel" (some .int) "check" 6 4 102 0 0) {M : mm_M} {v0 : Option Nat} {v1 : Int32} {v3 : Int32} {res : (mm_M × Int32 × Int32) ⊕ (Int32 × mm_M)} (hf : f_X10_check_105 M v0 v1 v3 = some res) (ko : (mm_o (h_X10_check_17 g v0 v1) (fun z => mm_q g 0 0 (some (mm_i z.1)) z.2)) res) : mm_X g 0 0 M 105 [(0, mm_r v0), (1, mm_i v1), (3, mm_i v3)] [] := by
  unfold f_X10_check_105 at hf
  refine xr_iconst 106 C (v := 1) dX10_check_105 (by decide) rfl ?_
  refine xr_goto 110 C dX10_check_106 (by decide) ?_
  exact w_X10_check_110 C hf ko
noncomputable def f_X10_check_109 (M : mm_M) (v0 : Option Nat) (v1 : Int32) (v3 : Int32) : Option ((mm_M × Int32 × Int32) ⊕ (Int32 × mm_M)) :=
  f_X10_check_110 M v0 v1 v3 0
set_option maxRecDepth 20000 in
theorem w_X10_check_109 {g : mm_c} (C : mm_ok g cX10_check "LessonCardsModel" (some .int) "check" 6 4 102 0 0) {M : mm_M} {v0 : Option Nat} {v1 : Int32} {v3 : Int32} {res : (mm_M × Int32 × Int32) ⊕ (Int32 × mm_M)} (hf : f_X10_check_109 M v0 v1 v3 = some res) (ko : (mm_o (h_X10_check_17 g v0 v1) (fun z => mm_q g 0 0 (some (mm_i z.1)) z.2)) res) : mm_X g 0 0 M 109 [(0, mm_r v0), (1, mm_i v1), (3, mm_i v3)] [] := by
  unfold f_X10_check_109 at hf
  refine xr_iconst 110 C (v := 0) dX10_check_109 (by decide) rfl ?_
  exact w_X10_check_110 C hf ko
noncomputable def f_X10_check_92 (M : mm_M) (v0 : Option Nat) (v1 : Int32) (v3 : Int32) : Option ((mm_M × Int32 × Int32) ⊕ (Int32 × mm_M)) :=
  (mm_fI M v0 11 33).bind fun x93 =>
  (mm_fR M v0 11 17).bind fun x97 =>
  (mm_aI M x97 12 v3).bind fun x101 =>
  if x93 = x101 then f_X10_check_105 M v0 v1 v3 else f_X10_check_109 M v0 v1 v3
set_option maxRecDepth 20000 in
theorem w_X10_check_92 {g : mm_c} (C : mm_ok g cX10_check "LessonCardsModel" (some .int) "check" 6 4 102 0 0) {M : mm_M} {v0 : Option Nat} {v1 : Int32} {v3 : Int32} {res : (mm_M × Int32 × Int32) ⊕ (Int32 × mm_M)} (hf : f_X10_check_92 M v0 v1 v3 = some res) (ko : (mm_o (h_X10_check_17 g v0 v1) (fun z => mm_q g 0 0 (some (mm_i z.1)) z.2)) res) : mm_X g 0 0 M 92 [(0, mm_r v0), (1, mm_i v1), (3, mm_i v3)] [] := by
  unfold f_X10_check_92 at hf
  refine xr_aload_n 93 0 C dX10_check_92 rfl rfl rfl ?_
  obtain ⟨x93, h93, hf⟩ := mm_bd_e hf
  refine xr_getI 96 C cf_X10_147 rfl h93 dX10_check_93 rfl ?_
  refine xr_aload_n 97 0 C dX10_check_96 rfl rfl rfl ?_
  obtain ⟨x97, h97, hf⟩ := mm_bd_e hf
  refine xr_getR 100 C cf_X10_57 rfl h97 dX10_check_97 rfl ?_
  refine xr_iload_n 101 2 C dX10_check_100 rfl rfl rfl ?_
  obtain ⟨x101, h101, hf⟩ := mm_bd_e hf
  refine xr_aldI 102 C h101 dX10_check_101 rfl ?_
  refine xr_icmp_ne 109 105 C dX10_check_102 (by decide) rfl (fun hc => ?_) (fun hc => ?_)
  · replace hf := (if_neg hc).symm.trans hf
    exact w_X10_check_109 C hf ko
  · replace hf := (if_pos hc).symm.trans hf
    exact w_X10_check_105 C hf ko
noncomputable def f_X10_check_79 (M : mm_M) (v0 : Option Nat) (v1 : Int32) (v3 : Int32) : Option ((mm_M × Int32 × Int32) ⊕ (Int32 × mm_M)) :=
  (mm_fI M v0 11 32).bind fun x80 =>
  (mm_fR M v0 11 16).bind fun x84 =>
  (mm_aI M x84 12 v3).bind fun x88 =>
  if x80 = x88 then f_X10_check_92 M v0 v1 v3 else f_X10_check_109 M v0 v1 v3
set_option maxRecDepth 20000 in
theorem w_X10_check_79 {g : mm_c} (C : mm_ok g cX10_check "LessonCardsModel" (some .int) "check" 6 4 102 0 0) {M : mm_M} {v0 : Option Nat} {v1 : Int32} {v3 : Int32} {res : (mm_M × Int32 × Int32) ⊕ (Int32 × mm_M)} (hf : f_X10_check_79 M v0 v1 v3 = some res) (ko : (mm_o (h_X10_check_17 g v0 v1) (fun z => mm_q g 0 0 (some (mm_i z.1)) z.2)) res) : mm_X g 0 0 M 79 [(0, mm_r v0), (1, mm_i v1), (3, mm_i v3)] [] := by
  unfold f_X10_check_79 at hf
  refine xr_aload_n 80 0 C dX10_check_79 rfl rfl rfl ?_
  obtain ⟨x80, h80, hf⟩ := mm_bd_e hf
  refine xr_getI 83 C cf_X10_144 rfl h80 dX10_check_80 rfl ?_
  refine xr_aload_n 84 0 C dX10_check_83 rfl rfl rfl ?_
  obtain ⟨x84, h84, hf⟩ := mm_bd_e hf
  refine xr_getR 87 C cf_X10_54 rfl h84 dX10_check_84 rfl ?_
  refine xr_iload_n 88 2 C dX10_check_87 rfl rfl rfl ?_
  obtain ⟨x88, h88, hf⟩ := mm_bd_e hf
  refine xr_aldI 89 C h88 dX10_check_88 rfl ?_
  refine xr_icmp_ne 109 92 C dX10_check_89 (by decide) rfl (fun hc => ?_) (fun hc => ?_)
  · replace hf := (if_neg hc).symm.trans hf
    exact w_X10_check_109 C hf ko
  · replace hf := (if_pos hc).symm.trans hf
    exact w_X10_check_92 C hf ko
noncomputable def f_X10_check_66 (M : mm_M) (v0 : Option Nat) (v1 : Int32) (v3 : Int32) : Option ((mm_M × Int32 × Int32) ⊕ (Int32 × mm_M)) :=
  (mm_fI M v0 11 31).bind fun x67 =>
  (mm_fR M v0 11 15).bind fun x71 =>
  (mm_aI M x71 12 v3).bind fun x75 =>
  if x67 = x75 then f_X10_check_79 M v0 v1 v3 else f_X10_check_109 M v0 v1 v3
set_option maxRecDepth 20000 in
theorem w_X10_check_66 {g : mm_c} (C : mm_ok g cX10_check "LessonCardsModel" (some .int) "check" 6 4 102 0 0) {M : mm_M} {v0 : Option Nat} {v1 : Int32} {v3 : Int32} {res : (mm_M × Int32 × Int32) ⊕ (Int32 × mm_M)} (hf : f_X10_check_66 M v0 v1 v3 = some res) (ko : (mm_o (h_X10_check_17 g v0 v1) (fun z => mm_q g 0 0 (some (mm_i z.1)) z.2)) res) : mm_X g 0 0 M 66 [(0, mm_r v0), (1, mm_i v1), (3, mm_i v3)] [] := by
  unfold f_X10_check_66 at hf
  refine xr_aload_n 67 0 C dX10_check_66 rfl rfl rfl ?_
  obtain ⟨x67, h67, hf⟩ := mm_bd_e hf
  refine xr_getI 70 C cf_X10_141 rfl h67 dX10_check_67 rfl ?_
  refine xr_aload_n 71 0 C dX10_check_70 rfl rfl rfl ?_
  obtain ⟨x71, h71, hf⟩ := mm_bd_e hf
  refine xr_getR 74 C cf_X10_51 rfl h71 dX10_check_71 rfl ?_
  refine xr_iload_n 75 2 C dX10_check_74 rfl rfl rfl ?_
  obtain ⟨x75, h75, hf⟩ := mm_bd_e hf
  refine xr_aldI 76 C h75 dX10_check_75 rfl ?_
  refine xr_icmp_ne 109 79 C dX10_check_76 (by decide) rfl (fun hc => ?_) (fun hc => ?_)
  · replace hf := (if_neg hc).symm.trans hf
    exact w_X10_check_109 C hf ko
  · replace hf := (if_pos hc).symm.trans hf
    exact w_X10_check_79 C hf ko
noncomputable def f_X10_check_53 (M : mm_M) (v0 : Option Nat) (v1 : Int32) (v3 : Int32) : Option ((mm_M × Int32 × Int32) ⊕ (Int32 × mm_M)) :=
  (mm_fI M v0 11 30).bind fun x54 =>
  (mm_fR M v0 11 14).bind fun x58 =>
  (mm_aI M x58 12 v3).bind fun x62 =>
  if x54 = x62 then f_X10_check_66 M v0 v1 v3 else f_X10_check_109 M v0 v1 v3
set_option maxRecDepth 20000 in
theorem w_X10_check_53 {g : mm_c} (C : mm_ok g cX10_check "LessonCardsModel" (some .int) "check" 6 4 102 0 0) {M : mm_M} {v0 : Option Nat} {v1 : Int32} {v3 : Int32} {res : (mm_M × Int32 × Int32) ⊕ (Int32 × mm_M)} (hf : f_X10_check_53 M v0 v1 v3 = some res) (ko : (mm_o (h_X10_check_17 g v0 v1) (fun z => mm_q g 0 0 (some (mm_i z.1)) z.2)) res) : mm_X g 0 0 M 53 [(0, mm_r v0), (1, mm_i v1), (3, mm_i v3)] [] := by
  unfold f_X10_check_53 at hf
  refine xr_aload_n 54 0 C dX10_check_53 rfl rfl rfl ?_
  obtain ⟨x54, h54, hf⟩ := mm_bd_e hf
  refine xr_getI 57 C cf_X10_138 rfl h54 dX10_check_54 rfl ?_
  refine xr_aload_n 58 0 C dX10_check_57 rfl rfl rfl ?_
  obtain ⟨x58, h58, hf⟩ := mm_bd_e hf
  refine xr_getR 61 C cf_X10_48 rfl h58 dX10_check_58 rfl ?_
  refine xr_iload_n 62 2 C dX10_check_61 rfl rfl rfl ?_
  obtain ⟨x62, h62, hf⟩ := mm_bd_e hf
  refine xr_aldI 63 C h62 dX10_check_62 rfl ?_
  refine xr_icmp_ne 109 66 C dX10_check_63 (by decide) rfl (fun hc => ?_) (fun hc => ?_)
  · replace hf := (if_neg hc).symm.trans hf
    exact w_X10_check_109 C hf ko
  · replace hf := (if_pos hc).symm.trans hf
    exact w_X10_check_66 C hf ko
noncomputable def f_X10_check_32 (M : mm_M) (v0 : Option Nat) (v1 : Int32) (v3 : Int32) : Option ((mm_M × Int32 × Int32) ⊕ (Int32 × mm_M)) :=
  (mm_rc M v0 11).bind fun u35 =>
  mm_b2 (f_X10_replay M v0 v3 (-1)) fun x35 M35 =>
  (mm_fI M35 v0 11 29).bind fun x41 =>
  (mm_fR M35 v0 11 13).bind fun x45 =>
  (mm_aI M35 x45 12 v3).bind fun x49 =>
  if x41 = x49 then f_X10_check_53 M35 v0 v1 v3 else f_X10_check_109 M35 v0 v1 v3
set_option maxRecDepth 20000 in
theorem w_X10_check_32 {g : mm_c} (C : mm_ok g cX10_check "LessonCardsModel" (some .int) "check" 6 4 102 0 0) {M : mm_M} {v0 : Option Nat} {v1 : Int32} {v3 : Int32} {res : (mm_M × Int32 × Int32) ⊕ (Int32 × mm_M)} (hf : f_X10_check_32 M v0 v1 v3 = some res) (ko : (mm_o (h_X10_check_17 g v0 v1) (fun z => mm_q g 0 0 (some (mm_i z.1)) z.2)) res) : mm_X g 0 0 M 32 [(0, mm_r v0), (1, mm_i v1), (3, mm_i v3)] [] := by
  unfold f_X10_check_32 at hf
  refine xr_aload_n 33 0 C dX10_check_32 rfl rfl rfl ?_
  refine xr_iload_n 34 2 C dX10_check_33 rfl rfl rfl ?_
  refine xr_iconst 35 C (v := (-1)) dX10_check_34 (by decide) rfl ?_
  obtain ⟨u35, g35, hf⟩ := mm_bd_e hf
  obtain ⟨x35, M35, h35, hf⟩ := mm_b2_e hf
  refine xr_callV 38 C [mm_i v3, mm_i (-1)] cm_X10_266 (fun l G cy => c_X10_replay l G cy h35) g35 rfl rfl ⟨⟨Nat.le_of_ble_eq_true rfl, Nat.le_of_ble_eq_true rfl⟩, (Nat.le_of_ble_eq_true rfl), (Nat.le_of_ble_eq_true rfl)⟩ (Nat.le_of_ble_eq_true rfl) dX10_check_35 rfl ?_
  refine xr_lstore 40 C dX10_check_38 (by decide) rfl [(4, mm_j x35), (0, mm_r v0), (1, mm_i v1), (3, mm_i v3)] rfl ?_
  refine xr_aload_n 41 1 C dX10_check_40 rfl rfl rfl ?_
  obtain ⟨x41, h41, hf⟩ := mm_bd_e hf
  refine xr_getI 44 C cf_X10_135 rfl h41 dX10_check_41 rfl ?_
  refine xr_aload_n 45 1 C dX10_check_44 rfl rfl rfl ?_
  obtain ⟨x45, h45, hf⟩ := mm_bd_e hf
  refine xr_getR 48 C cf_X10_45 rfl h45 dX10_check_45 rfl ?_
  refine xr_iload_n 49 3 C dX10_check_48 rfl rfl rfl ?_
  obtain ⟨x49, h49, hf⟩ := mm_bd_e hf
  refine xr_aldI 50 C h49 dX10_check_49 rfl ?_
  refine xr_icmp_ne 109 53 C dX10_check_50 (by decide) rfl (fun hc => ?_) (fun hc => ?_)
  · replace hf := (if_neg hc).symm.trans hf
    refine xr_sub [1, 2, 3] (lv2 := [(0, mm_r v0), (1, mm_i v1), (3, mm_i v3)]) rfl ?_
    exact w_X10_check_109 C hf ko
  · replace hf := (if_pos hc).symm.trans hf
    refine xr_sub [1, 2, 3] (lv2 := [(0, mm_r v0), (1, mm_i v1), (3, mm_i v3)]) rfl ?_
    exact w_X10_check_53 C hf ko
noncomputable def f_X10_check_126 (M : mm_M) (s0 : Int32) : Option (Int32 × mm_M) :=
  some (s0, M)
set_option maxRecDepth 20000 in
theorem w_X10_check_126 {g : mm_c} (C : mm_ok g cX10_check "LessonCardsModel" (some .int) "check" 6 4 102 0 0) {M : mm_M} {s0 : Int32} {res : Int32 × mm_M} (hf : f_X10_check_126 M s0 = some res) (ko : (fun z => mm_q g 0 0 (some (mm_i z.1)) z.2) res) : mm_X g 0 0 M 126 [] [mm_i s0] := by
  unfold f_X10_check_126 at hf
  obtain rfl := Option.some.inj hf
  exact xr_iret C ko ⟨(Nat.le_of_ble_eq_true rfl), (Nat.le_of_ble_eq_true rfl)⟩ dX10_check_126
noncomputable def f_X10_check_121 (M : mm_M) : Option (Int32 × mm_M) :=
  f_X10_check_126 M 1
set_option maxRecDepth 20000 in
theorem w_X10_check_121 {g : mm_c} (C : mm_ok g cX10_check "LessonCardsModel" (some .int) "check" 6 4 102 0 0) {M : mm_M} {res : Int32 × mm_M} (hf : f_X10_check_121 M = some res) (ko : (fun z => mm_q g 0 0 (some (mm_i z.1)) z.2) res) : mm_X g 0 0 M 121 [] [] := by
  unfold f_X10_check_121 at hf
  refine xr_iconst 122 C (v := 1) dX10_check_121 (by decide) rfl ?_
  refine xr_goto 126 C dX10_check_122 (by decide) ?_
  exact w_X10_check_126 C hf ko
noncomputable def f_X10_check_125 (M : mm_M) : Option (Int32 × mm_M) :=
  f_X10_check_126 M 0
set_option maxRecDepth 20000 in
theorem w_X10_check_125 {g : mm_c} (C : mm_ok g cX10_check "LessonCardsModel" (some .int) "check" 6 4 102 0 0) {M : mm_M} {res : Int32 × mm_M} (hf : f_X10_check_125 M = some res) (ko : (fun z => mm_q g 0 0 (some (mm_i z.1)) z.2) res) : mm_X g 0 0 M 125 [] [] := by
  unfold f_X10_check_125 at hf
  refine xr_iconst 126 C (v := 0) dX10_check_125 (by decide) rfl ?_
  exact w_X10_check_126 C hf ko
noncomputable def f_X10_check_117 (M : mm_M) (v2 : Int32) : Option (Int32 × mm_M) :=
  if v2 = 0 then f_X10_check_125 M else f_X10_check_121 M
set_option maxRecDepth 20000 in
theorem w_X10_check_117 {g : mm_c} (C : mm_ok g cX10_check "LessonCardsModel" (some .int) "check" 6 4 102 0 0) {M : mm_M} {v2 : Int32} {res : Int32 × mm_M} (hf : f_X10_check_117 M v2 = some res) (ko : (fun z => mm_q g 0 0 (some (mm_i z.1)) z.2) res) : mm_X g 0 0 M 117 [(2, mm_i v2)] [] := by
  unfold f_X10_check_117 at hf
  refine xr_iload_n 118 0 C dX10_check_117 rfl rfl rfl ?_
  refine xr_if_eq 125 121 C dX10_check_118 (by decide) rfl (fun hc => ?_) (fun hc => ?_)
  · replace hf := (if_pos hc).symm.trans hf
    refine xr_sub [] (lv2 := []) rfl ?_
    exact w_X10_check_125 C hf ko
  · replace hf := (if_neg hc).symm.trans hf
    refine xr_sub [] (lv2 := []) rfl ?_
    exact w_X10_check_121 C hf ko
noncomputable def f_X10_check_28 (M : mm_M) (v0 : Option Nat) (v1 : Int32) (v2 : Int32) (v3 : Int32) : Option ((mm_M × Int32 × Int32) ⊕ (Int32 × mm_M)) :=
  if v2 = 0 then mm_mp (f_X10_check_117 M v2) else f_X10_check_32 M v0 v1 v3
set_option maxRecDepth 20000 in
theorem w_X10_check_28 {g : mm_c} (C : mm_ok g cX10_check "LessonCardsModel" (some .int) "check" 6 4 102 0 0) {M : mm_M} {v0 : Option Nat} {v1 : Int32} {v2 : Int32} {v3 : Int32} {res : (mm_M × Int32 × Int32) ⊕ (Int32 × mm_M)} (hf : f_X10_check_28 M v0 v1 v2 v3 = some res) (ko : (mm_o (h_X10_check_17 g v0 v1) (fun z => mm_q g 0 0 (some (mm_i z.1)) z.2)) res) : mm_X g 0 0 M 28 [(0, mm_r v0), (1, mm_i v1), (2, mm_i v2), (3, mm_i v3)] [] := by
  unfold f_X10_check_28 at hf
  refine xr_iload_n 29 2 C dX10_check_28 rfl rfl rfl ?_
  refine xr_if_eq 117 32 C dX10_check_29 (by decide) rfl (fun hc => ?_) (fun hc => ?_)
  · replace hf := (if_pos hc).symm.trans hf
    refine xr_sub [2] (lv2 := [(2, mm_i v2)]) rfl ?_
    obtain ⟨z, hf2, rfl⟩ := mm_mp_e hf
    clear hf
    have hf := hf2
    clear hf2
    exact w_X10_check_117 C hf ko
  · replace hf := (if_neg hc).symm.trans hf
    refine xr_sub [0, 1, 3] (lv2 := [(0, mm_r v0), (1, mm_i v1), (3, mm_i v3)]) rfl ?_
    exact w_X10_check_32 C hf ko
noncomputable def f_X10_check_17 (M : mm_M) (v0 : Option Nat) (v1 : Int32) (v2 : Int32) (v3 : Int32) : Option ((mm_M × Int32 × Int32) ⊕ (Int32 × mm_M)) :=
  if ((v1 + 1) * 480) ≤ v3 then mm_mp (f_X10_check_117 M v2) else f_X10_check_28 M v0 v1 v2 v3
set_option maxRecDepth 20000 in
theorem w_X10_check_17 {g : mm_c} (C : mm_ok g cX10_check "LessonCardsModel" (some .int) "check" 6 4 102 0 0) {M : mm_M} {v0 : Option Nat} {v1 : Int32} {v2 : Int32} {v3 : Int32} {res : (mm_M × Int32 × Int32) ⊕ (Int32 × mm_M)} (hf : f_X10_check_17 M v0 v1 v2 v3 = some res) (ko : (mm_o (h_X10_check_17 g v0 v1) (fun z => mm_q g 0 0 (some (mm_i z.1)) z.2)) res) : mm_X g 0 0 M 17 [(0, mm_r v0), (1, mm_i v1), (2, mm_i v2), (3, mm_i v3)] [] := by
  unfold f_X10_check_17 at hf
  refine xr_iload_n 18 3 C dX10_check_17 rfl rfl rfl ?_
  refine xr_iload_n 19 1 C dX10_check_18 rfl rfl rfl ?_
  refine xr_iconst 20 C (v := 1) dX10_check_19 (by decide) rfl ?_
  refine xr_iadd 21 C dX10_check_20 rfl ?_
  refine xr_sipush 24 C (v := 480) dX10_check_21 (by decide) rfl ?_
  refine xr_imul 25 C dX10_check_24 rfl ?_
  refine xr_icmp_ge 117 28 C dX10_check_25 (by decide) rfl (fun hc => ?_) (fun hc => ?_)
  · replace hf := (if_pos hc).symm.trans hf
    refine xr_sub [2] (lv2 := [(2, mm_i v2)]) rfl ?_
    obtain ⟨z, hf2, rfl⟩ := mm_mp_e hf
    clear hf
    have hf := hf2
    clear hf2
    exact w_X10_check_117 C hf ko
  · replace hf := (if_neg hc).symm.trans hf
    exact w_X10_check_28 C hf ko
noncomputable def f_X10_check_17w (M : mm_M) (v0 : Option Nat) (v1 : Int32) (v2 : Int32) (v3 : Int32) : Option (Int32 × mm_M) := mm_w (fun x => f_X10_check_17 x.1 v0 v1 x.2.1 x.2.2) (M, v2, v3)
theorem l_X10_check_17 {g : mm_c} (C : mm_ok g cX10_check "LessonCardsModel" (some .int) "check" 6 4 102 0 0) {M : mm_M} {v0 : Option Nat} {v1 : Int32} {v2 : Int32} {v3 : Int32} {res : Int32 × mm_M} (hf : f_X10_check_17w M v0 v1 v2 v3 = some res) (ko : (fun z => mm_q g 0 0 (some (mm_i z.1)) z.2) res) : mm_X g 0 0 M 17 [(0, mm_r v0), (1, mm_i v1), (2, mm_i v2), (3, mm_i v3)] [] :=
  mm_w_W (body := fun x => f_X10_check_17 x.1 v0 v1 x.2.1 x.2.2) (Wh := h_X10_check_17 g v0 v1) (ok := (fun z => mm_q g 0 0 (some (mm_i z.1)) z.2)) (x := (M, v2, v3)) (fun x r hb ho => w_X10_check_17 C hb ho) hf ko
noncomputable def f_X10_check_9 (M : mm_M) (v0 : Option Nat) (v1 : Int32) : Option (Int32 × mm_M) :=
  f_X10_check_17w M v0 v1 1 (v1 * 480)
set_option maxRecDepth 20000 in
theorem w_X10_check_9 {g : mm_c} (C : mm_ok g cX10_check "LessonCardsModel" (some .int) "check" 6 4 102 0 0) {M : mm_M} {v0 : Option Nat} {v1 : Int32} {res : Int32 × mm_M} (hf : f_X10_check_9 M v0 v1 = some res) (ko : (fun z => mm_q g 0 0 (some (mm_i z.1)) z.2) res) : mm_X g 0 0 M 9 [(0, mm_r v0), (1, mm_i v1)] [] := by
  unfold f_X10_check_9 at hf
  refine xr_iconst 10 C (v := 1) dX10_check_9 (by decide) rfl ?_
  refine xr_istore_n 11 C dX10_check_10 rfl (by decide) rfl [(2, mm_i 1), (0, mm_r v0), (1, mm_i v1)] rfl ?_
  refine xr_iload_n 12 2 C dX10_check_11 rfl rfl rfl ?_
  refine xr_sipush 15 C (v := 480) dX10_check_12 (by decide) rfl ?_
  refine xr_imul 16 C dX10_check_15 rfl ?_
  refine xr_istore_n 17 C dX10_check_16 rfl (by decide) rfl [(3, mm_i (v1 * 480)), (2, mm_i 1), (0, mm_r v0), (1, mm_i v1)] rfl ?_
  refine xr_sub [2, 3, 1, 0] (lv2 := [(0, mm_r v0), (1, mm_i v1), (2, mm_i 1), (3, mm_i (v1 * 480))]) rfl ?_
  exact l_X10_check_17 C hf ko
noncomputable def f_X10_check_0 (M : mm_M) (v0 : Option Nat) (v1 : Int32) : Option (Int32 × mm_M) :=
  (f_X10_isPupil M v1).bind fun x1 =>
  if x1 = 0 then f_X10_check_7 M else f_X10_check_9 M v0 v1
set_option maxRecDepth 20000 in
theorem w_X10_check_0 {g : mm_c} (C : mm_ok g cX10_check "LessonCardsModel" (some .int) "check" 6 4 102 0 0) {M : mm_M} {v0 : Option Nat} {v1 : Int32} {res : Int32 × mm_M} (hf : f_X10_check_0 M v0 v1 = some res) (ko : (fun z => mm_q g 0 0 (some (mm_i z.1)) z.2) res) : mm_X g 0 0 M 0 [(0, mm_r v0), (1, mm_i v1)] [] := by
  unfold f_X10_check_0 at hf
  refine xr_iload_n 1 1 C dX10_check_0 rfl rfl rfl ?_
  obtain ⟨x1, h1, hf⟩ := mm_bd_e hf
  refine xr_callS 4 C [mm_i v1] cm_X10_190 (fun l G cy => c_X10_isPupil l G cy h1) rfl rfl ⟨⟨Nat.le_of_ble_eq_true rfl, Nat.le_of_ble_eq_true rfl⟩, (Nat.le_of_ble_eq_true rfl), (Nat.le_of_ble_eq_true rfl)⟩ (Nat.le_of_ble_eq_true rfl) dX10_check_1 rfl ?_
  refine xr_if_ne 9 7 C dX10_check_4 (by decide) rfl (fun hc => ?_) (fun hc => ?_)
  · replace hf := (if_neg hc).symm.trans hf
    exact w_X10_check_9 C hf ko
  · replace hf := (if_pos hc).symm.trans hf
    refine xr_sub [] (lv2 := []) rfl ?_
    exact w_X10_check_7 C hf ko
noncomputable def f_X10_check (M : mm_M) (v0 : Option Nat) (v1 : Int32) : Option (Int32 × mm_M) := f_X10_check_0 M v0 v1
theorem c_X10_check (l : Launch) (G : va_G) (cy : Nat → ClassId) {M : mm_M} {v0 : Option Nat} {v1 : Int32} {r : Int32} {M1 : mm_M} (hf : f_X10_check M v0 v1 = some (r, M1)) : mm_Met l yX10_check cX10_check 6 (some .int) 4 102 0 0 G cy [mm_r v0, mm_i v1] M (some (mm_i r)) M1 :=
  mm_enter (by decide) (Nat.le_of_ble_eq_true rfl) (fun p e R s m args below meth c Q C hq => xr_sub [0, 1] (lv2 := [(0, mm_r v0), (1, mm_i v1)]) rfl (w_X10_check_0 C hf hq))
