def h_X4_fits_18 (g : mm_c) (v0 : Option Nat) (v1 : Int32) (v2 : Int32) (v3 : Int32) (v4 : Int32) : (mm_M × Int32) → Prop := fun x => mm_X g 0 0 x.1 18 [(0, mm_r v0), (1, mm_i v1), (2, mm_i v2), (3, mm_i v3), (4, mm_i v4), (5, mm_i x.2)] []
def h_X4_fits_5 (g : mm_c) (v0 : Option Nat) (v1 : Int32) (v2 : Int32) : (mm_M × Int32 × Int32) → Prop := fun x => mm_X g 0 0 x.1 5 [(0, mm_r v0), (1, mm_i v1), (2, mm_i v2), (3, mm_i x.2.1), (4, mm_i x.2.2)] []
noncomputable def f_X4_fits_79 (M : mm_M) : Option (Int32 × mm_M) :=
  some (0, M)
set_option maxRecDepth 20000 in
theorem w_X4_fits_79 {g : mm_c} (C : mm_ok g cX4_fits "LessonCards$Evening" (some .boolean) "fits" 6 1 22 0 0) {M : mm_M} {res : Int32 × mm_M} (hf : f_X4_fits_79 M = some res) (ko : (fun z => mm_q g 0 0 (some (mm_i z.1)) z.2) res) : mm_X g 0 0 M 79 [] [] := by
  unfold f_X4_fits_79 at hf
  refine xr_iconst 80 C (v := 0) dX4_fits_79 (by decide) rfl ?_
  obtain rfl := Option.some.inj hf
  exact xr_zret C (by decide) ko ⟨(Nat.le_of_ble_eq_true rfl), (Nat.le_of_ble_eq_true rfl)⟩ dX4_fits_80
noncomputable def f_X4_fits_81 (M : mm_M) (v0 : Option Nat) (v1 : Int32) (v2 : Int32) (v3 : Int32) (v4 : Int32) (v5 : Int32) : Option ((mm_M × Int32) ⊕ ((mm_M × Int32 × Int32) ⊕ (Int32 × mm_M))) :=
  (mm_fR M v0 5 0).bind fun x83 =>
  (mm_aI M x83 12 v5).bind fun x88 =>
  (mm_rc M v0 5).bind fun u95 =>
  (f_X4_putOn M v0 (x88 - x88 / 480 * 480) v4).bind fun M95 =>
  some (.inl (M95, (v5 + 1)))
set_option maxRecDepth 20000 in
theorem w_X4_fits_81 {g : mm_c} (C : mm_ok g cX4_fits "LessonCards$Evening" (some .boolean) "fits" 6 1 22 0 0) {M : mm_M} {v0 : Option Nat} {v1 : Int32} {v2 : Int32} {v3 : Int32} {v4 : Int32} {v5 : Int32} {res : (mm_M × Int32) ⊕ ((mm_M × Int32 × Int32) ⊕ (Int32 × mm_M))} (hf : f_X4_fits_81 M v0 v1 v2 v3 v4 v5 = some res) (ko : (mm_o (h_X4_fits_18 g v0 v1 v2 v3 v4) (mm_o (h_X4_fits_5 g v0 v1 v2) (fun z => mm_q g 0 0 (some (mm_i z.1)) z.2))) res) : mm_X g 0 0 M 81 [(0, mm_r v0), (1, mm_i v1), (2, mm_i v2), (3, mm_i v3), (4, mm_i v4), (5, mm_i v5)] [] := by
  unfold f_X4_fits_81 at hf
  refine xr_aload_n 82 0 C dX4_fits_81 rfl rfl rfl ?_
  refine xr_aload_n 83 0 C dX4_fits_82 rfl rfl rfl ?_
  obtain ⟨x83, h83, hf⟩ := mm_bd_e hf
  refine xr_getR 86 C cf_X4_9 rfl h83 dX4_fits_83 rfl ?_
  refine xr_iload 88 5 C dX4_fits_86 rfl rfl ?_
  obtain ⟨x88, h88, hf⟩ := mm_bd_e hf
  refine xr_aldI 89 C h88 dX4_fits_88 rfl ?_
  refine xr_sipush 92 C (v := 480) dX4_fits_89 (by decide) rfl ?_
  refine xr_irem 93 C dX4_fits_92 (by decide) rfl ?_
  refine xr_iload 95 4 C dX4_fits_93 rfl rfl ?_
  obtain ⟨u95, g95, hf⟩ := mm_bd_e hf
  obtain ⟨M95, h95, hf⟩ := mm_bd_e hf
  refine xr_callV 98 C [mm_i (x88 - x88 / 480 * 480), mm_i v4] cm_X4_56 (fun l G cy => c_X4_putOn l G cy h95) g95 rfl rfl ⟨⟨Nat.le_of_ble_eq_true rfl, Nat.le_of_ble_eq_true rfl⟩, (Nat.le_of_ble_eq_true rfl), (Nat.le_of_ble_eq_true rfl)⟩ (Nat.le_of_ble_eq_true rfl) dX4_fits_95 rfl ?_
  refine xr_iinc 101 5 C dX4_fits_98 rfl (by decide) (v := 1) (by decide) rfl [(5, mm_i (v5 + 1)), (0, mm_r v0), (1, mm_i v1), (2, mm_i v2), (3, mm_i v3), (4, mm_i v4)] rfl ?_
  refine xr_goto 18 C dX4_fits_101 (by decide) ?_
  refine xr_sub [1, 2, 3, 4, 5, 0] (lv2 := [(0, mm_r v0), (1, mm_i v1), (2, mm_i v2), (3, mm_i v3), (4, mm_i v4), (5, mm_i (v5 + 1))]) rfl ?_
  obtain rfl := Option.some.inj hf
  exact ko
noncomputable def f_X4_fits_61 (M : mm_M) (v0 : Option Nat) (v1 : Int32) (v2 : Int32) (v3 : Int32) (v4 : Int32) (v5 : Int32) : Option ((mm_M × Int32) ⊕ ((mm_M × Int32 × Int32) ⊕ (Int32 × mm_M))) :=
  (mm_fR M v0 5 0).bind fun x62 =>
  (mm_aI M x62 12 v5).bind fun x67 =>
  if v4 ≤ ((x67 / 480) + v2) then f_X4_fits_81 M v0 v1 v2 v3 v4 v5 else mm_mp (mm_mp (f_X4_fits_79 M))
set_option maxRecDepth 20000 in
theorem w_X4_fits_61 {g : mm_c} (C : mm_ok g cX4_fits "LessonCards$Evening" (some .boolean) "fits" 6 1 22 0 0) {M : mm_M} {v0 : Option Nat} {v1 : Int32} {v2 : Int32} {v3 : Int32} {v4 : Int32} {v5 : Int32} {res : (mm_M × Int32) ⊕ ((mm_M × Int32 × Int32) ⊕ (Int32 × mm_M))} (hf : f_X4_fits_61 M v0 v1 v2 v3 v4 v5 = some res) (ko : (mm_o (h_X4_fits_18 g v0 v1 v2 v3 v4) (mm_o (h_X4_fits_5 g v0 v1 v2) (fun z => mm_q g 0 0 (some (mm_i z.1)) z.2))) res) : mm_X g 0 0 M 61 [(0, mm_r v0), (1, mm_i v1), (2, mm_i v2), (3, mm_i v3), (4, mm_i v4), (5, mm_i v5)] [] := by
  unfold f_X4_fits_61 at hf
  refine xr_aload_n 62 0 C dX4_fits_61 rfl rfl rfl ?_
  obtain ⟨x62, h62, hf⟩ := mm_bd_e hf
  refine xr_getR 65 C cf_X4_9 rfl h62 dX4_fits_62 rfl ?_
  refine xr_iload 67 5 C dX4_fits_65 rfl rfl ?_
  obtain ⟨x67, h67, hf⟩ := mm_bd_e hf
  refine xr_aldI 68 C h67 dX4_fits_67 rfl ?_
  refine xr_sipush 71 C (v := 480) dX4_fits_68 (by decide) rfl ?_
  refine xr_idiv 72 C dX4_fits_71 (by decide) rfl ?_
  refine xr_iload_n 73 2 C dX4_fits_72 rfl rfl rfl ?_
  refine xr_iadd 74 C dX4_fits_73 rfl ?_
  refine xr_iload 76 4 C dX4_fits_74 rfl rfl ?_
  refine xr_icmp_ge 81 79 C dX4_fits_76 (by decide) rfl (fun hc => ?_) (fun hc => ?_)
  · replace hf := (if_pos hc).symm.trans hf
    exact w_X4_fits_81 C hf ko
  · replace hf := (if_neg hc).symm.trans hf
    refine xr_sub [] (lv2 := []) rfl ?_
    obtain ⟨z, hf2, rfl⟩ := mm_mp_e hf
    clear hf
    have hf := hf2
    clear hf2
    obtain ⟨z, hf2, rfl⟩ := mm_mp_e hf
    clear hf
    have hf := hf2
    clear hf2
    exact w_X4_fits_79 C hf ko
noncomputable def f_X4_fits_104 (M : mm_M) (v0 : Option Nat) (v1 : Int32) (v2 : Int32) (v3 : Int32) (v4 : Int32) (v5 : Int32) : Option ((mm_M × Int32 × Int32) ⊕ (Int32 × mm_M)) :=
  (mm_fR M v0 5 3).bind fun x105 =>
  (mm_tI M x105 v4 (v5 - v3)).bind fun M114 =>
  some (.inl (M114, v5, (v4 + 1)))
set_option maxRecDepth 20000 in
theorem w_X4_fits_104 {g : mm_c} (C : mm_ok g cX4_fits "LessonCards$Evening" (some .boolean) "fits" 6 1 22 0 0) {M : mm_M} {v0 : Option Nat} {v1 : Int32} {v2 : Int32} {v3 : Int32} {v4 : Int32} {v5 : Int32} {res : (mm_M × Int32 × Int32) ⊕ (Int32 × mm_M)} (hf : f_X4_fits_104 M v0 v1 v2 v3 v4 v5 = some res) (ko : (mm_o (h_X4_fits_5 g v0 v1 v2) (fun z => mm_q g 0 0 (some (mm_i z.1)) z.2)) res) : mm_X g 0 0 M 104 [(0, mm_r v0), (1, mm_i v1), (2, mm_i v2), (3, mm_i v3), (4, mm_i v4), (5, mm_i v5)] [] := by
  unfold f_X4_fits_104 at hf
  refine xr_aload_n 105 0 C dX4_fits_104 rfl rfl rfl ?_
  obtain ⟨x105, h105, hf⟩ := mm_bd_e hf
  refine xr_getR 108 C cf_X4_18 rfl h105 dX4_fits_105 rfl ?_
  refine xr_iload 110 4 C dX4_fits_108 rfl rfl ?_
  refine xr_iload 112 5 C dX4_fits_110 rfl rfl ?_
  refine xr_iload_n 113 3 C dX4_fits_112 rfl rfl rfl ?_
  refine xr_isub 114 C dX4_fits_113 rfl ?_
  obtain ⟨M114, h114, hf⟩ := mm_bd_e hf
  refine xr_astI 115 C h114 dX4_fits_114 rfl ?_
  refine xr_iload 117 5 C dX4_fits_115 rfl rfl ?_
  refine xr_istore_n 118 C dX4_fits_117 rfl (by decide) rfl [(3, mm_i v5), (0, mm_r v0), (1, mm_i v1), (2, mm_i v2), (4, mm_i v4), (5, mm_i v5)] rfl ?_
  refine xr_iinc 121 4 C dX4_fits_118 rfl (by decide) (v := 1) (by decide) rfl [(4, mm_i (v4 + 1)), (3, mm_i v5), (0, mm_r v0), (1, mm_i v1), (2, mm_i v2), (5, mm_i v5)] rfl ?_
  refine xr_goto 5 C dX4_fits_121 (by decide) ?_
  refine xr_sub [2, 3, 4, 1, 0] (lv2 := [(0, mm_r v0), (1, mm_i v1), (2, mm_i v2), (3, mm_i v5), (4, mm_i (v4 + 1))]) rfl ?_
  obtain rfl := Option.some.inj hf
  exact ko
noncomputable def f_X4_fits_45 (M : mm_M) (v0 : Option Nat) (v1 : Int32) (v2 : Int32) (v3 : Int32) (v4 : Int32) (v5 : Int32) : Option ((mm_M × Int32) ⊕ ((mm_M × Int32 × Int32) ⊕ (Int32 × mm_M))) :=
  (mm_fR M v0 5 0).bind fun x46 =>
  (mm_aI M x46 12 v5).bind fun x51 =>
  if v4 < (x51 / 480) then mm_mp (f_X4_fits_104 M v0 v1 v2 v3 v4 v5) else f_X4_fits_61 M v0 v1 v2 v3 v4 v5
set_option maxRecDepth 20000 in
theorem w_X4_fits_45 {g : mm_c} (C : mm_ok g cX4_fits "LessonCards$Evening" (some .boolean) "fits" 6 1 22 0 0) {M : mm_M} {v0 : Option Nat} {v1 : Int32} {v2 : Int32} {v3 : Int32} {v4 : Int32} {v5 : Int32} {res : (mm_M × Int32) ⊕ ((mm_M × Int32 × Int32) ⊕ (Int32 × mm_M))} (hf : f_X4_fits_45 M v0 v1 v2 v3 v4 v5 = some res) (ko : (mm_o (h_X4_fits_18 g v0 v1 v2 v3 v4) (mm_o (h_X4_fits_5 g v0 v1 v2) (fun z => mm_q g 0 0 (some (mm_i z.1)) z.2))) res) : mm_X g 0 0 M 45 [(0, mm_r v0), (1, mm_i v1), (2, mm_i v2), (3, mm_i v3), (4, mm_i v4), (5, mm_i v5)] [] := by
  unfold f_X4_fits_45 at hf
  refine xr_aload_n 46 0 C dX4_fits_45 rfl rfl rfl ?_
  obtain ⟨x46, h46, hf⟩ := mm_bd_e hf
  refine xr_getR 49 C cf_X4_9 rfl h46 dX4_fits_46 rfl ?_
  refine xr_iload 51 5 C dX4_fits_49 rfl rfl ?_
  obtain ⟨x51, h51, hf⟩ := mm_bd_e hf
  refine xr_aldI 52 C h51 dX4_fits_51 rfl ?_
  refine xr_sipush 55 C (v := 480) dX4_fits_52 (by decide) rfl ?_
  refine xr_idiv 56 C dX4_fits_55 (by decide) rfl ?_
  refine xr_iload 58 4 C dX4_fits_56 rfl rfl ?_
  refine xr_icmp_gt 104 61 C dX4_fits_58 (by decide) rfl (fun hc => ?_) (fun hc => ?_)
  · replace hf := (if_pos hc).symm.trans hf
    obtain ⟨z, hf2, rfl⟩ := mm_mp_e hf
    clear hf
    have hf := hf2
    clear hf2
    exact w_X4_fits_104 C hf ko
  · replace hf := (if_neg hc).symm.trans hf
    exact w_X4_fits_61 C hf ko
noncomputable def f_X4_fits_37 (M : mm_M) (v0 : Option Nat) (v1 : Int32) (v2 : Int32) (v3 : Int32) (v4 : Int32) (v5 : Int32) : Option ((mm_M × Int32) ⊕ ((mm_M × Int32 × Int32) ⊕ (Int32 × mm_M))) :=
  if v1 ≤ (v5 - v3) then mm_mp (f_X4_fits_104 M v0 v1 v2 v3 v4 v5) else f_X4_fits_45 M v0 v1 v2 v3 v4 v5
set_option maxRecDepth 20000 in
theorem w_X4_fits_37 {g : mm_c} (C : mm_ok g cX4_fits "LessonCards$Evening" (some .boolean) "fits" 6 1 22 0 0) {M : mm_M} {v0 : Option Nat} {v1 : Int32} {v2 : Int32} {v3 : Int32} {v4 : Int32} {v5 : Int32} {res : (mm_M × Int32) ⊕ ((mm_M × Int32 × Int32) ⊕ (Int32 × mm_M))} (hf : f_X4_fits_37 M v0 v1 v2 v3 v4 v5 = some res) (ko : (mm_o (h_X4_fits_18 g v0 v1 v2 v3 v4) (mm_o (h_X4_fits_5 g v0 v1 v2) (fun z => mm_q g 0 0 (some (mm_i z.1)) z.2))) res) : mm_X g 0 0 M 37 [(0, mm_r v0), (1, mm_i v1), (2, mm_i v2), (3, mm_i v3), (4, mm_i v4), (5, mm_i v5)] [] := by
  unfold f_X4_fits_37 at hf
  refine xr_iload 39 5 C dX4_fits_37 rfl rfl ?_
  refine xr_iload_n 40 3 C dX4_fits_39 rfl rfl rfl ?_
  refine xr_isub 41 C dX4_fits_40 rfl ?_
  refine xr_iload_n 42 1 C dX4_fits_41 rfl rfl rfl ?_
  refine xr_icmp_ge 104 45 C dX4_fits_42 (by decide) rfl (fun hc => ?_) (fun hc => ?_)
  · replace hf := (if_pos hc).symm.trans hf
    obtain ⟨z, hf2, rfl⟩ := mm_mp_e hf
    clear hf
    have hf := hf2
    clear hf2
    exact w_X4_fits_104 C hf ko
  · replace hf := (if_neg hc).symm.trans hf
    exact w_X4_fits_45 C hf ko
noncomputable def f_X4_fits_27 (M : mm_M) (v0 : Option Nat) (v1 : Int32) (v2 : Int32) (v3 : Int32) (v4 : Int32) (v5 : Int32) : Option ((mm_M × Int32) ⊕ ((mm_M × Int32 × Int32) ⊕ (Int32 × mm_M))) :=
  (mm_fR M v0 5 0).bind fun x30 =>
  (mm_ln M x30).bind fun x33 =>
  if x33 ≤ v5 then mm_mp (f_X4_fits_104 M v0 v1 v2 v3 v4 v5) else f_X4_fits_37 M v0 v1 v2 v3 v4 v5
set_option maxRecDepth 20000 in
theorem w_X4_fits_27 {g : mm_c} (C : mm_ok g cX4_fits "LessonCards$Evening" (some .boolean) "fits" 6 1 22 0 0) {M : mm_M} {v0 : Option Nat} {v1 : Int32} {v2 : Int32} {v3 : Int32} {v4 : Int32} {v5 : Int32} {res : (mm_M × Int32) ⊕ ((mm_M × Int32 × Int32) ⊕ (Int32 × mm_M))} (hf : f_X4_fits_27 M v0 v1 v2 v3 v4 v5 = some res) (ko : (mm_o (h_X4_fits_18 g v0 v1 v2 v3 v4) (mm_o (h_X4_fits_5 g v0 v1 v2) (fun z => mm_q g 0 0 (some (mm_i z.1)) z.2))) res) : mm_X g 0 0 M 27 [(0, mm_r v0), (1, mm_i v1), (2, mm_i v2), (3, mm_i v3), (4, mm_i v4), (5, mm_i v5)] [] := by
  unfold f_X4_fits_27 at hf
  refine xr_iload 29 5 C dX4_fits_27 rfl rfl ?_
  refine xr_aload_n 30 0 C dX4_fits_29 rfl rfl rfl ?_
  obtain ⟨x30, h30, hf⟩ := mm_bd_e hf
  refine xr_getR 33 C cf_X4_9 rfl h30 dX4_fits_30 rfl ?_
  obtain ⟨x33, h33, hf⟩ := mm_bd_e hf
  refine xr_alen 34 C h33 dX4_fits_33 rfl ?_
  refine xr_icmp_ge 104 37 C dX4_fits_34 (by decide) rfl (fun hc => ?_) (fun hc => ?_)
  · replace hf := (if_pos hc).symm.trans hf
    obtain ⟨z, hf2, rfl⟩ := mm_mp_e hf
    clear hf
    have hf := hf2
    clear hf2
    exact w_X4_fits_104 C hf ko
  · replace hf := (if_neg hc).symm.trans hf
    exact w_X4_fits_37 C hf ko
noncomputable def f_X4_fits_18 (M : mm_M) (v0 : Option Nat) (v1 : Int32) (v2 : Int32) (v3 : Int32) (v4 : Int32) (v5 : Int32) : Option ((mm_M × Int32) ⊕ ((mm_M × Int32 × Int32) ⊕ (Int32 × mm_M))) :=
  (mm_fI M v0 5 1).bind fun x21 =>
  if x21 ≤ v5 then mm_mp (f_X4_fits_104 M v0 v1 v2 v3 v4 v5) else f_X4_fits_27 M v0 v1 v2 v3 v4 v5
set_option maxRecDepth 20000 in
theorem w_X4_fits_18 {g : mm_c} (C : mm_ok g cX4_fits "LessonCards$Evening" (some .boolean) "fits" 6 1 22 0 0) {M : mm_M} {v0 : Option Nat} {v1 : Int32} {v2 : Int32} {v3 : Int32} {v4 : Int32} {v5 : Int32} {res : (mm_M × Int32) ⊕ ((mm_M × Int32 × Int32) ⊕ (Int32 × mm_M))} (hf : f_X4_fits_18 M v0 v1 v2 v3 v4 v5 = some res) (ko : (mm_o (h_X4_fits_18 g v0 v1 v2 v3 v4) (mm_o (h_X4_fits_5 g v0 v1 v2) (fun z => mm_q g 0 0 (some (mm_i z.1)) z.2))) res) : mm_X g 0 0 M 18 [(0, mm_r v0), (1, mm_i v1), (2, mm_i v2), (3, mm_i v3), (4, mm_i v4), (5, mm_i v5)] [] := by
  unfold f_X4_fits_18 at hf
  refine xr_iload 20 5 C dX4_fits_18 rfl rfl ?_
  refine xr_aload_n 21 0 C dX4_fits_20 rfl rfl rfl ?_
  obtain ⟨x21, h21, hf⟩ := mm_bd_e hf
  refine xr_getI 24 C cf_X4_21 rfl h21 dX4_fits_21 rfl ?_
  refine xr_icmp_ge 104 27 C dX4_fits_24 (by decide) rfl (fun hc => ?_) (fun hc => ?_)
  · replace hf := (if_pos hc).symm.trans hf
    obtain ⟨z, hf2, rfl⟩ := mm_mp_e hf
    clear hf
    have hf := hf2
    clear hf2
    exact w_X4_fits_104 C hf ko
  · replace hf := (if_neg hc).symm.trans hf
    exact w_X4_fits_27 C hf ko
noncomputable def f_X4_fits_18w (M : mm_M) (v0 : Option Nat) (v1 : Int32) (v2 : Int32) (v3 : Int32) (v4 : Int32) (v5 : Int32) : Option ((mm_M × Int32 × Int32) ⊕ (Int32 × mm_M)) := mm_w (fun x => f_X4_fits_18 x.1 v0 v1 v2 v3 v4 x.2) (M, v5)
theorem l_X4_fits_18 {g : mm_c} (C : mm_ok g cX4_fits "LessonCards$Evening" (some .boolean) "fits" 6 1 22 0 0) {M : mm_M} {v0 : Option Nat} {v1 : Int32} {v2 : Int32} {v3 : Int32} {v4 : Int32} {v5 : Int32} {res : (mm_M × Int32 × Int32) ⊕ (Int32 × mm_M)} (hf : f_X4_fits_18w M v0 v1 v2 v3 v4 v5 = some res) (ko : (mm_o (h_X4_fits_5 g v0 v1 v2) (fun z => mm_q g 0 0 (some (mm_i z.1)) z.2)) res) : mm_X g 0 0 M 18 [(0, mm_r v0), (1, mm_i v1), (2, mm_i v2), (3, mm_i v3), (4, mm_i v4), (5, mm_i v5)] [] :=
  mm_w_W (body := fun x => f_X4_fits_18 x.1 v0 v1 v2 v3 v4 x.2) (Wh := h_X4_fits_18 g v0 v1 v2 v3 v4) (ok := (mm_o (h_X4_fits_5 g v0 v1 v2) (fun z => mm_q g 0 0 (some (mm_i z.1)) z.2))) (x := (M, v5)) (fun x r hb ho => w_X4_fits_18 C hb ho) hf ko
noncomputable def f_X4_fits_15 (M : mm_M) (v0 : Option Nat) (v1 : Int32) (v2 : Int32) (v3 : Int32) (v4 : Int32) : Option ((mm_M × Int32 × Int32) ⊕ (Int32 × mm_M)) :=
  f_X4_fits_18w M v0 v1 v2 v3 v4 v3
set_option maxRecDepth 20000 in
theorem w_X4_fits_15 {g : mm_c} (C : mm_ok g cX4_fits "LessonCards$Evening" (some .boolean) "fits" 6 1 22 0 0) {M : mm_M} {v0 : Option Nat} {v1 : Int32} {v2 : Int32} {v3 : Int32} {v4 : Int32} {res : (mm_M × Int32 × Int32) ⊕ (Int32 × mm_M)} (hf : f_X4_fits_15 M v0 v1 v2 v3 v4 = some res) (ko : (mm_o (h_X4_fits_5 g v0 v1 v2) (fun z => mm_q g 0 0 (some (mm_i z.1)) z.2)) res) : mm_X g 0 0 M 15 [(0, mm_r v0), (1, mm_i v1), (2, mm_i v2), (3, mm_i v3), (4, mm_i v4)] [] := by
  unfold f_X4_fits_15 at hf
  refine xr_iload_n 16 3 C dX4_fits_15 rfl rfl rfl ?_
  refine xr_istore 18 C dX4_fits_16 (by decide) rfl [(5, mm_i v3), (0, mm_r v0), (1, mm_i v1), (2, mm_i v2), (3, mm_i v3), (4, mm_i v4)] rfl ?_
  refine xr_sub [1, 2, 3, 4, 5, 0] (lv2 := [(0, mm_r v0), (1, mm_i v1), (2, mm_i v2), (3, mm_i v3), (4, mm_i v4), (5, mm_i v3)]) rfl ?_
  exact l_X4_fits_18 C hf ko
noncomputable def f_X4_fits_137 (M : mm_M) (s0 : Int32) : Option (Int32 × mm_M) :=
  mm_gd (s0 = 0 ∨ s0 = 1) <|
  some (s0, M)
set_option maxRecDepth 20000 in
theorem w_X4_fits_137 {g : mm_c} (C : mm_ok g cX4_fits "LessonCards$Evening" (some .boolean) "fits" 6 1 22 0 0) {M : mm_M} {s0 : Int32} {res : Int32 × mm_M} (hf : f_X4_fits_137 M s0 = some res) (ko : (fun z => mm_q g 0 0 (some (mm_i z.1)) z.2) res) : mm_X g 0 0 M 137 [] [mm_i s0] := by
  unfold f_X4_fits_137 at hf
  obtain ⟨hz, hf⟩ := mm_gd_e hf
  obtain rfl := Option.some.inj hf
  exact xr_zret C hz ko ⟨(Nat.le_of_ble_eq_true rfl), (Nat.le_of_ble_eq_true rfl)⟩ dX4_fits_137
noncomputable def f_X4_fits_132 (M : mm_M) : Option (Int32 × mm_M) :=
  f_X4_fits_137 M 1
set_option maxRecDepth 20000 in
theorem w_X4_fits_132 {g : mm_c} (C : mm_ok g cX4_fits "LessonCards$Evening" (some .boolean) "fits" 6 1 22 0 0) {M : mm_M} {res : Int32 × mm_M} (hf : f_X4_fits_132 M = some res) (ko : (fun z => mm_q g 0 0 (some (mm_i z.1)) z.2) res) : mm_X g 0 0 M 132 [] [] := by
  unfold f_X4_fits_132 at hf
  refine xr_iconst 133 C (v := 1) dX4_fits_132 (by decide) rfl ?_
  refine xr_goto 137 C dX4_fits_133 (by decide) ?_
  exact w_X4_fits_137 C hf ko
noncomputable def f_X4_fits_136 (M : mm_M) : Option (Int32 × mm_M) :=
  f_X4_fits_137 M 0
set_option maxRecDepth 20000 in
theorem w_X4_fits_136 {g : mm_c} (C : mm_ok g cX4_fits "LessonCards$Evening" (some .boolean) "fits" 6 1 22 0 0) {M : mm_M} {res : Int32 × mm_M} (hf : f_X4_fits_136 M = some res) (ko : (fun z => mm_q g 0 0 (some (mm_i z.1)) z.2) res) : mm_X g 0 0 M 136 [] [] := by
  unfold f_X4_fits_136 at hf
  refine xr_iconst 137 C (v := 0) dX4_fits_136 (by decide) rfl ?_
  exact w_X4_fits_137 C hf ko
noncomputable def f_X4_fits_124 (M : mm_M) (v0 : Option Nat) (v3 : Int32) : Option (Int32 × mm_M) :=
  (mm_fI M v0 5 1).bind fun x126 =>
  if v3 = x126 then f_X4_fits_132 M else f_X4_fits_136 M
set_option maxRecDepth 20000 in
theorem w_X4_fits_124 {g : mm_c} (C : mm_ok g cX4_fits "LessonCards$Evening" (some .boolean) "fits" 6 1 22 0 0) {M : mm_M} {v0 : Option Nat} {v3 : Int32} {res : Int32 × mm_M} (hf : f_X4_fits_124 M v0 v3 = some res) (ko : (fun z => mm_q g 0 0 (some (mm_i z.1)) z.2) res) : mm_X g 0 0 M 124 [(0, mm_r v0), (3, mm_i v3)] [] := by
  unfold f_X4_fits_124 at hf
  refine xr_iload_n 125 1 C dX4_fits_124 rfl rfl rfl ?_
  refine xr_aload_n 126 0 C dX4_fits_125 rfl rfl rfl ?_
  obtain ⟨x126, h126, hf⟩ := mm_bd_e hf
  refine xr_getI 129 C cf_X4_21 rfl h126 dX4_fits_126 rfl ?_
  refine xr_icmp_ne 136 132 C dX4_fits_129 (by decide) rfl (fun hc => ?_) (fun hc => ?_)
  · replace hf := (if_neg hc).symm.trans hf
    refine xr_sub [] (lv2 := []) rfl ?_
    exact w_X4_fits_136 C hf ko
  · replace hf := (if_pos hc).symm.trans hf
    refine xr_sub [] (lv2 := []) rfl ?_
    exact w_X4_fits_132 C hf ko
noncomputable def f_X4_fits_5 (M : mm_M) (v0 : Option Nat) (v1 : Int32) (v2 : Int32) (v3 : Int32) (v4 : Int32) : Option ((mm_M × Int32 × Int32) ⊕ (Int32 × mm_M)) :=
  (mm_fR M v0 5 3).bind fun x8 =>
  (mm_ln M x8).bind fun x11 =>
  if x11 ≤ v4 then mm_mp (f_X4_fits_124 M v0 v3) else f_X4_fits_15 M v0 v1 v2 v3 v4
set_option maxRecDepth 20000 in
theorem w_X4_fits_5 {g : mm_c} (C : mm_ok g cX4_fits "LessonCards$Evening" (some .boolean) "fits" 6 1 22 0 0) {M : mm_M} {v0 : Option Nat} {v1 : Int32} {v2 : Int32} {v3 : Int32} {v4 : Int32} {res : (mm_M × Int32 × Int32) ⊕ (Int32 × mm_M)} (hf : f_X4_fits_5 M v0 v1 v2 v3 v4 = some res) (ko : (mm_o (h_X4_fits_5 g v0 v1 v2) (fun z => mm_q g 0 0 (some (mm_i z.1)) z.2)) res) : mm_X g 0 0 M 5 [(0, mm_r v0), (1, mm_i v1), (2, mm_i v2), (3, mm_i v3), (4, mm_i v4)] [] := by
  unfold f_X4_fits_5 at hf
  refine xr_iload 7 4 C dX4_fits_5 rfl rfl ?_
  refine xr_aload_n 8 0 C dX4_fits_7 rfl rfl rfl ?_
  obtain ⟨x8, h8, hf⟩ := mm_bd_e hf
  refine xr_getR 11 C cf_X4_18 rfl h8 dX4_fits_8 rfl ?_
  obtain ⟨x11, h11, hf⟩ := mm_bd_e hf
  refine xr_alen 12 C h11 dX4_fits_11 rfl ?_
  refine xr_icmp_ge 124 15 C dX4_fits_12 (by decide) rfl (fun hc => ?_) (fun hc => ?_)
  · replace hf := (if_pos hc).symm.trans hf
    refine xr_sub [0, 3] (lv2 := [(0, mm_r v0), (3, mm_i v3)]) rfl ?_
    obtain ⟨z, hf2, rfl⟩ := mm_mp_e hf
    clear hf
    have hf := hf2
    clear hf2
    exact w_X4_fits_124 C hf ko
  · replace hf := (if_neg hc).symm.trans hf
    exact w_X4_fits_15 C hf ko
noncomputable def f_X4_fits_5w (M : mm_M) (v0 : Option Nat) (v1 : Int32) (v2 : Int32) (v3 : Int32) (v4 : Int32) : Option (Int32 × mm_M) := mm_w (fun x => f_X4_fits_5 x.1 v0 v1 v2 x.2.1 x.2.2) (M, v3, v4)
theorem l_X4_fits_5 {g : mm_c} (C : mm_ok g cX4_fits "LessonCards$Evening" (some .boolean) "fits" 6 1 22 0 0) {M : mm_M} {v0 : Option Nat} {v1 : Int32} {v2 : Int32} {v3 : Int32} {v4 : Int32} {res : Int32 × mm_M} (hf : f_X4_fits_5w M v0 v1 v2 v3 v4 = some res) (ko : (fun z => mm_q g 0 0 (some (mm_i z.1)) z.2) res) : mm_X g 0 0 M 5 [(0, mm_r v0), (1, mm_i v1), (2, mm_i v2), (3, mm_i v3), (4, mm_i v4)] [] :=
  mm_w_W (body := fun x => f_X4_fits_5 x.1 v0 v1 v2 x.2.1 x.2.2) (Wh := h_X4_fits_5 g v0 v1 v2) (ok := (fun z => mm_q g 0 0 (some (mm_i z.1)) z.2)) (x := (M, v3, v4)) (fun x r hb ho => w_X4_fits_5 C hb ho) hf ko
noncomputable def f_X4_fits_0 (M : mm_M) (v0 : Option Nat) (v1 : Int32) (v2 : Int32) : Option (Int32 × mm_M) :=
  f_X4_fits_5w M v0 v1 v2 0 0
set_option maxRecDepth 20000 in
theorem w_X4_fits_0 {g : mm_c} (C : mm_ok g cX4_fits "LessonCards$Evening" (some .boolean) "fits" 6 1 22 0 0) {M : mm_M} {v0 : Option Nat} {v1 : Int32} {v2 : Int32} {res : Int32 × mm_M} (hf : f_X4_fits_0 M v0 v1 v2 = some res) (ko : (fun z => mm_q g 0 0 (some (mm_i z.1)) z.2) res) : mm_X g 0 0 M 0 [(0, mm_r v0), (1, mm_i v1), (2, mm_i v2)] [] := by
  unfold f_X4_fits_0 at hf
  refine xr_iconst 1 C (v := 0) dX4_fits_0 (by decide) rfl ?_
  refine xr_istore_n 2 C dX4_fits_1 rfl (by decide) rfl [(3, mm_i 0), (0, mm_r v0), (1, mm_i v1), (2, mm_i v2)] rfl ?_
  refine xr_iconst 3 C (v := 0) dX4_fits_2 (by decide) rfl ?_
  refine xr_istore 5 C dX4_fits_3 (by decide) rfl [(4, mm_i 0), (3, mm_i 0), (0, mm_r v0), (1, mm_i v1), (2, mm_i v2)] rfl ?_
  refine xr_sub [2, 3, 4, 1, 0] (lv2 := [(0, mm_r v0), (1, mm_i v1), (2, mm_i v2), (3, mm_i 0), (4, mm_i 0)]) rfl ?_
  exact l_X4_fits_5 C hf ko
noncomputable def f_X4_fits (M : mm_M) (v0 : Option Nat) (v1 : Int32) (v2 : Int32) : Option (Int32 × mm_M) := f_X4_fits_0 M v0 v1 v2
theorem c_X4_fits (l : Launch) (G : va_G) (cy : Nat → ClassId) {M : mm_M} {v0 : Option Nat} {v1 : Int32} {v2 : Int32} {r : Int32} {M1 : mm_M} (hf : f_X4_fits M v0 v1 v2 = some (r, M1)) : mm_Met l yX4_fits cX4_fits 6 (some .boolean) 1 22 0 0 G cy [mm_r v0, mm_i v1, mm_i v2] M (some (mm_i r)) M1 :=
  mm_enter (by decide) (Nat.le_of_ble_eq_true rfl) (fun p e R s m args below meth c Q C hq => xr_sub [0, 1, 2] (lv2 := [(0, mm_r v0), (1, mm_i v1), (2, mm_i v2)]) rfl (w_X4_fits_0 C hf hq))
def h_X4_leastGreatest_2 (g : mm_c) (v0 : Option Nat) (v1 : Int32) : (mm_M × Int32) → Prop := fun x => mm_X g 0 0 x.1 2 [(0, mm_r v0), (1, mm_i v1), (2, mm_i x.2)] []
noncomputable def f_X4_leastGreatest_19 (M : mm_M) (v2 : Int32) : Option (Int32 × mm_M) :=
  some (v2, M)
set_option maxRecDepth 20000 in
theorem w_X4_leastGreatest_19 {g : mm_c} (C : mm_ok g cX4_leastGreatest "LessonCards$Evening" (some .int) "leastGreatest" 3 2 47 0 0) {M : mm_M} {v2 : Int32} {res : Int32 × mm_M} (hf : f_X4_leastGreatest_19 M v2 = some res) (ko : (fun z => mm_q g 0 0 (some (mm_i z.1)) z.2) res) : mm_X g 0 0 M 19 [(2, mm_i v2)] [] := by
  unfold f_X4_leastGreatest_19 at hf
  refine xr_iload_n 20 0 C dX4_leastGreatest_19 rfl rfl rfl ?_
  obtain rfl := Option.some.inj hf
  exact xr_iret C ko ⟨(Nat.le_of_ble_eq_true rfl), (Nat.le_of_ble_eq_true rfl)⟩ dX4_leastGreatest_20
noncomputable def f_X4_leastGreatest_21 (M : mm_M) (v0 : Option Nat) (v1 : Int32) (v2 : Int32) : Option ((mm_M × Int32) ⊕ (Int32 × mm_M)) :=
  some (.inl (M, (v2 + 1)))
set_option maxRecDepth 20000 in
theorem w_X4_leastGreatest_21 {g : mm_c} (C : mm_ok g cX4_leastGreatest "LessonCards$Evening" (some .int) "leastGreatest" 3 2 47 0 0) {M : mm_M} {v0 : Option Nat} {v1 : Int32} {v2 : Int32} {res : (mm_M × Int32) ⊕ (Int32 × mm_M)} (hf : f_X4_leastGreatest_21 M v0 v1 v2 = some res) (ko : (mm_o (h_X4_leastGreatest_2 g v0 v1) (fun z => mm_q g 0 0 (some (mm_i z.1)) z.2)) res) : mm_X g 0 0 M 21 [(0, mm_r v0), (1, mm_i v1), (2, mm_i v2)] [] := by
  unfold f_X4_leastGreatest_21 at hf
  refine xr_iinc 24 2 C dX4_leastGreatest_21 rfl (by decide) (v := 1) (by decide) rfl [(2, mm_i (v2 + 1)), (0, mm_r v0), (1, mm_i v1)] rfl ?_
  refine xr_goto 2 C dX4_leastGreatest_24 (by decide) ?_
  refine xr_sub [1, 2, 0] (lv2 := [(0, mm_r v0), (1, mm_i v1), (2, mm_i (v2 + 1))]) rfl ?_
  obtain rfl := Option.some.inj hf
  exact ko
noncomputable def f_X4_leastGreatest_10 (M : mm_M) (v0 : Option Nat) (v1 : Int32) (v2 : Int32) : Option ((mm_M × Int32) ⊕ (Int32 × mm_M)) :=
  (mm_rc M v0 5).bind fun u13 =>
  mm_b2 (f_X4_fits M v0 v2 v1) fun x13 M13 =>
  if x13 = 0 then f_X4_leastGreatest_21 M13 v0 v1 v2 else mm_mp (f_X4_leastGreatest_19 M13 v2)
set_option maxRecDepth 20000 in
theorem w_X4_leastGreatest_10 {g : mm_c} (C : mm_ok g cX4_leastGreatest "LessonCards$Evening" (some .int) "leastGreatest" 3 2 47 0 0) {M : mm_M} {v0 : Option Nat} {v1 : Int32} {v2 : Int32} {res : (mm_M × Int32) ⊕ (Int32 × mm_M)} (hf : f_X4_leastGreatest_10 M v0 v1 v2 = some res) (ko : (mm_o (h_X4_leastGreatest_2 g v0 v1) (fun z => mm_q g 0 0 (some (mm_i z.1)) z.2)) res) : mm_X g 0 0 M 10 [(0, mm_r v0), (1, mm_i v1), (2, mm_i v2)] [] := by
  unfold f_X4_leastGreatest_10 at hf
  refine xr_aload_n 11 0 C dX4_leastGreatest_10 rfl rfl rfl ?_
  refine xr_iload_n 12 2 C dX4_leastGreatest_11 rfl rfl rfl ?_
  refine xr_iload_n 13 1 C dX4_leastGreatest_12 rfl rfl rfl ?_
  obtain ⟨u13, g13, hf⟩ := mm_bd_e hf
  obtain ⟨x13, M13, h13, hf⟩ := mm_b2_e hf
  refine xr_callV 16 C [mm_i v2, mm_i v1] cm_X4_52 (fun l G cy => c_X4_fits l G cy h13) g13 rfl rfl ⟨⟨Nat.le_of_ble_eq_true rfl, Nat.le_of_ble_eq_true rfl⟩, (Nat.le_of_ble_eq_true rfl), (Nat.le_of_ble_eq_true rfl)⟩ (Nat.le_of_ble_eq_true rfl) dX4_leastGreatest_13 rfl ?_
  refine xr_if_eq 21 19 C dX4_leastGreatest_16 (by decide) rfl (fun hc => ?_) (fun hc => ?_)
  · replace hf := (if_pos hc).symm.trans hf
    exact w_X4_leastGreatest_21 C hf ko
  · replace hf := (if_neg hc).symm.trans hf
    refine xr_sub [2] (lv2 := [(2, mm_i v2)]) rfl ?_
    obtain ⟨z, hf2, rfl⟩ := mm_mp_e hf
    clear hf
    have hf := hf2
    clear hf2
    exact w_X4_leastGreatest_19 C hf ko
noncomputable def f_X4_leastGreatest_27 (M : mm_M) (v0 : Option Nat) (v1 : Int32) : Option (Int32 × mm_M) :=
  (mm_fI M v0 5 1).bind fun x29 =>
  (mm_rc M v0 5).bind fun u33 =>
  mm_b2 (f_X4_fits M v0 x29 v1) fun x33 M33 =>
  (mm_fI M33 v0 5 1).bind fun x38 =>
  some (x38, M33)
set_option maxRecDepth 20000 in
theorem w_X4_leastGreatest_27 {g : mm_c} (C : mm_ok g cX4_leastGreatest "LessonCards$Evening" (some .int) "leastGreatest" 3 2 47 0 0) {M : mm_M} {v0 : Option Nat} {v1 : Int32} {res : Int32 × mm_M} (hf : f_X4_leastGreatest_27 M v0 v1 = some res) (ko : (fun z => mm_q g 0 0 (some (mm_i z.1)) z.2) res) : mm_X g 0 0 M 27 [(0, mm_r v0), (1, mm_i v1)] [] := by
  unfold f_X4_leastGreatest_27 at hf
  refine xr_aload_n 28 0 C dX4_leastGreatest_27 rfl rfl rfl ?_
  refine xr_aload_n 29 0 C dX4_leastGreatest_28 rfl rfl rfl ?_
  obtain ⟨x29, h29, hf⟩ := mm_bd_e hf
  refine xr_getI 32 C cf_X4_21 rfl h29 dX4_leastGreatest_29 rfl ?_
  refine xr_iload_n 33 1 C dX4_leastGreatest_32 rfl rfl rfl ?_
  obtain ⟨u33, g33, hf⟩ := mm_bd_e hf
  obtain ⟨x33, M33, h33, hf⟩ := mm_b2_e hf
  refine xr_callV 36 C [mm_i x29, mm_i v1] cm_X4_52 (fun l G cy => c_X4_fits l G cy h33) g33 rfl rfl ⟨⟨Nat.le_of_ble_eq_true rfl, Nat.le_of_ble_eq_true rfl⟩, (Nat.le_of_ble_eq_true rfl), (Nat.le_of_ble_eq_true rfl)⟩ (Nat.le_of_ble_eq_true rfl) dX4_leastGreatest_33 rfl ?_
  refine xr_pop 37 C dX4_leastGreatest_36 rfl rfl ?_
  refine xr_aload_n 38 0 C dX4_leastGreatest_37 rfl rfl rfl ?_
  obtain ⟨x38, h38, hf⟩ := mm_bd_e hf
  refine xr_getI 41 C cf_X4_21 rfl h38 dX4_leastGreatest_38 rfl ?_
  obtain rfl := Option.some.inj hf
  exact xr_iret C ko ⟨(Nat.le_of_ble_eq_true rfl), (Nat.le_of_ble_eq_true rfl)⟩ dX4_leastGreatest_41
noncomputable def f_X4_leastGreatest_2 (M : mm_M) (v0 : Option Nat) (v1 : Int32) (v2 : Int32) : Option ((mm_M × Int32) ⊕ (Int32 × mm_M)) :=
  (mm_fI M v0 5 1).bind fun x4 =>
  if x4 ≤ v2 then mm_mp (f_X4_leastGreatest_27 M v0 v1) else f_X4_leastGreatest_10 M v0 v1 v2
set_option maxRecDepth 20000 in
theorem w_X4_leastGreatest_2 {g : mm_c} (C : mm_ok g cX4_leastGreatest "LessonCards$Evening" (some .int) "leastGreatest" 3 2 47 0 0) {M : mm_M} {v0 : Option Nat} {v1 : Int32} {v2 : Int32} {res : (mm_M × Int32) ⊕ (Int32 × mm_M)} (hf : f_X4_leastGreatest_2 M v0 v1 v2 = some res) (ko : (mm_o (h_X4_leastGreatest_2 g v0 v1) (fun z => mm_q g 0 0 (some (mm_i z.1)) z.2)) res) : mm_X g 0 0 M 2 [(0, mm_r v0), (1, mm_i v1), (2, mm_i v2)] [] := by
  unfold f_X4_leastGreatest_2 at hf
  refine xr_iload_n 3 2 C dX4_leastGreatest_2 rfl rfl rfl ?_
  refine xr_aload_n 4 0 C dX4_leastGreatest_3 rfl rfl rfl ?_
  obtain ⟨x4, h4, hf⟩ := mm_bd_e hf
  refine xr_getI 7 C cf_X4_21 rfl h4 dX4_leastGreatest_4 rfl ?_
  refine xr_icmp_ge 27 10 C dX4_leastGreatest_7 (by decide) rfl (fun hc => ?_) (fun hc => ?_)
  · replace hf := (if_pos hc).symm.trans hf
    refine xr_sub [0, 1] (lv2 := [(0, mm_r v0), (1, mm_i v1)]) rfl ?_
    obtain ⟨z, hf2, rfl⟩ := mm_mp_e hf
    clear hf
    have hf := hf2
    clear hf2
    exact w_X4_leastGreatest_27 C hf ko
  · replace hf := (if_neg hc).symm.trans hf
    exact w_X4_leastGreatest_10 C hf ko
noncomputable def f_X4_leastGreatest_2w (M : mm_M) (v0 : Option Nat) (v1 : Int32) (v2 : Int32) : Option (Int32 × mm_M) := mm_w (fun x => f_X4_leastGreatest_2 x.1 v0 v1 x.2) (M, v2)
theorem l_X4_leastGreatest_2 {g : mm_c} (C : mm_ok g cX4_leastGreatest "LessonCards$Evening" (some .int) "leastGreatest" 3 2 47 0 0) {M : mm_M} {v0 : Option Nat} {v1 : Int32} {v2 : Int32} {res : Int32 × mm_M} (hf : f_X4_leastGreatest_2w M v0 v1 v2 = some res) (ko : (fun z => mm_q g 0 0 (some (mm_i z.1)) z.2) res) : mm_X g 0 0 M 2 [(0, mm_r v0), (1, mm_i v1), (2, mm_i v2)] [] :=
  mm_w_W (body := fun x => f_X4_leastGreatest_2 x.1 v0 v1 x.2) (Wh := h_X4_leastGreatest_2 g v0 v1) (ok := (fun z => mm_q g 0 0 (some (mm_i z.1)) z.2)) (x := (M, v2)) (fun x r hb ho => w_X4_leastGreatest_2 C hb ho) hf ko
noncomputable def f_X4_leastGreatest_0 (M : mm_M) (v0 : Option Nat) (v1 : Int32) : Option (Int32 × mm_M) :=
  f_X4_leastGreatest_2w M v0 v1 0
set_option maxRecDepth 20000 in
theorem w_X4_leastGreatest_0 {g : mm_c} (C : mm_ok g cX4_leastGreatest "LessonCards$Evening" (some .int) "leastGreatest" 3 2 47 0 0) {M : mm_M} {v0 : Option Nat} {v1 : Int32} {res : Int32 × mm_M} (hf : f_X4_leastGreatest_0 M v0 v1 = some res) (ko : (fun z => mm_q g 0 0 (some (mm_i z.1)) z.2) res) : mm_X g 0 0 M 0 [(0, mm_r v0), (1, mm_i v1)] [] := by
  unfold f_X4_leastGreatest_0 at hf
  refine xr_iconst 1 C (v := 0) dX4_leastGreatest_0 (by decide) rfl ?_
  refine xr_istore_n 2 C dX4_leastGreatest_1 rfl (by decide) rfl [(2, mm_i 0), (0, mm_r v0), (1, mm_i v1)] rfl ?_
  refine xr_sub [1, 2, 0] (lv2 := [(0, mm_r v0), (1, mm_i v1), (2, mm_i 0)]) rfl ?_
  exact l_X4_leastGreatest_2 C hf ko
noncomputable def f_X4_leastGreatest (M : mm_M) (v0 : Option Nat) (v1 : Int32) : Option (Int32 × mm_M) := f_X4_leastGreatest_0 M v0 v1
theorem c_X4_leastGreatest (l : Launch) (G : va_G) (cy : Nat → ClassId) {M : mm_M} {v0 : Option Nat} {v1 : Int32} {r : Int32} {M1 : mm_M} (hf : f_X4_leastGreatest M v0 v1 = some (r, M1)) : mm_Met l yX4_leastGreatest cX4_leastGreatest 3 (some .int) 2 47 0 0 G cy [mm_r v0, mm_i v1] M (some (mm_i r)) M1 :=
  mm_enter (by decide) (Nat.le_of_ble_eq_true rfl) (fun p e R s m args below meth c Q C hq => xr_sub [0, 1] (lv2 := [(0, mm_r v0), (1, mm_i v1)]) rfl (w_X4_leastGreatest_0 C hf hq))
noncomputable def f_X4_loadOn_30 (M : mm_M) (s0 : Int32) : Option (Int32) :=
  some s0
set_option maxRecDepth 20000 in
theorem w_X4_loadOn_30 {g : mm_c} (C : mm_ok g cX4_loadOn "LessonCards$Evening" (some .int) "loadOn" 2 0 0 0 0) {M : mm_M} {s0 : Int32} {res : Int32} (hf : f_X4_loadOn_30 M s0 = some res) (ko : (fun z => mm_q g 0 0 (some (mm_i z)) M) res) : mm_X g 0 0 M 30 [] [mm_i s0] := by
  unfold f_X4_loadOn_30 at hf
  obtain rfl := Option.some.inj hf
  exact xr_iret C ko ⟨(Nat.le_of_ble_eq_true rfl), (Nat.le_of_ble_eq_true rfl)⟩ dX4_loadOn_30
noncomputable def f_X4_loadOn_20 (M : mm_M) : Option (Int32) :=
  f_X4_loadOn_30 M (-1)
set_option maxRecDepth 20000 in
theorem w_X4_loadOn_20 {g : mm_c} (C : mm_ok g cX4_loadOn "LessonCards$Evening" (some .int) "loadOn" 2 0 0 0 0) {M : mm_M} {res : Int32} (hf : f_X4_loadOn_20 M = some res) (ko : (fun z => mm_q g 0 0 (some (mm_i z)) M) res) : mm_X g 0 0 M 20 [] [] := by
  unfold f_X4_loadOn_20 at hf
  refine xr_iconst 21 C (v := (-1)) dX4_loadOn_20 (by decide) rfl ?_
  refine xr_goto 30 C dX4_loadOn_21 (by decide) ?_
  exact w_X4_loadOn_30 C hf ko
noncomputable def f_X4_loadOn_24 (M : mm_M) (v0 : Option Nat) (v1 : Int32) : Option (Int32) :=
  (mm_fR M v0 5 3).bind fun x25 =>
  (mm_aI M x25 12 v1).bind fun x29 =>
  f_X4_loadOn_30 M x29
set_option maxRecDepth 20000 in
theorem w_X4_loadOn_24 {g : mm_c} (C : mm_ok g cX4_loadOn "LessonCards$Evening" (some .int) "loadOn" 2 0 0 0 0) {M : mm_M} {v0 : Option Nat} {v1 : Int32} {res : Int32} (hf : f_X4_loadOn_24 M v0 v1 = some res) (ko : (fun z => mm_q g 0 0 (some (mm_i z)) M) res) : mm_X g 0 0 M 24 [(0, mm_r v0), (1, mm_i v1)] [] := by
  unfold f_X4_loadOn_24 at hf
  refine xr_aload_n 25 0 C dX4_loadOn_24 rfl rfl rfl ?_
  obtain ⟨x25, h25, hf⟩ := mm_bd_e hf
  refine xr_getR 28 C cf_X4_18 rfl h25 dX4_loadOn_25 rfl ?_
  refine xr_iload_n 29 1 C dX4_loadOn_28 rfl rfl rfl ?_
  obtain ⟨x29, h29, hf⟩ := mm_bd_e hf
  refine xr_aldI 30 C h29 dX4_loadOn_29 rfl ?_
  refine xr_sub [] (lv2 := []) rfl ?_
  exact w_X4_loadOn_30 C hf ko
noncomputable def f_X4_loadOn_11 (M : mm_M) (v0 : Option Nat) (v1 : Int32) : Option (Int32) :=
  (mm_fR M v0 5 3).bind fun x13 =>
  (mm_ln M x13).bind fun x16 =>
  if v1 < x16 then f_X4_loadOn_24 M v0 v1 else f_X4_loadOn_20 M
set_option maxRecDepth 20000 in
theorem w_X4_loadOn_11 {g : mm_c} (C : mm_ok g cX4_loadOn "LessonCards$Evening" (some .int) "loadOn" 2 0 0 0 0) {M : mm_M} {v0 : Option Nat} {v1 : Int32} {res : Int32} (hf : f_X4_loadOn_11 M v0 v1 = some res) (ko : (fun z => mm_q g 0 0 (some (mm_i z)) M) res) : mm_X g 0 0 M 11 [(0, mm_r v0), (1, mm_i v1)] [] := by
  unfold f_X4_loadOn_11 at hf
  refine xr_iload_n 12 1 C dX4_loadOn_11 rfl rfl rfl ?_
  refine xr_aload_n 13 0 C dX4_loadOn_12 rfl rfl rfl ?_
  obtain ⟨x13, h13, hf⟩ := mm_bd_e hf
  refine xr_getR 16 C cf_X4_18 rfl h13 dX4_loadOn_13 rfl ?_
  obtain ⟨x16, h16, hf⟩ := mm_bd_e hf
  refine xr_alen 17 C h16 dX4_loadOn_16 rfl ?_
  refine xr_icmp_lt 24 20 C dX4_loadOn_17 (by decide) rfl (fun hc => ?_) (fun hc => ?_)
  · replace hf := (if_pos hc).symm.trans hf
    exact w_X4_loadOn_24 C hf ko
  · replace hf := (if_neg hc).symm.trans hf
    refine xr_sub [] (lv2 := []) rfl ?_
    exact w_X4_loadOn_20 C hf ko
noncomputable def f_X4_loadOn_7 (M : mm_M) (v0 : Option Nat) (v1 : Int32) : Option (Int32) :=
  if v1 < 0 then f_X4_loadOn_20 M else f_X4_loadOn_11 M v0 v1
set_option maxRecDepth 20000 in
theorem w_X4_loadOn_7 {g : mm_c} (C : mm_ok g cX4_loadOn "LessonCards$Evening" (some .int) "loadOn" 2 0 0 0 0) {M : mm_M} {v0 : Option Nat} {v1 : Int32} {res : Int32} (hf : f_X4_loadOn_7 M v0 v1 = some res) (ko : (fun z => mm_q g 0 0 (some (mm_i z)) M) res) : mm_X g 0 0 M 7 [(0, mm_r v0), (1, mm_i v1)] [] := by
  unfold f_X4_loadOn_7 at hf
  refine xr_iload_n 8 1 C dX4_loadOn_7 rfl rfl rfl ?_
  refine xr_if_lt 20 11 C dX4_loadOn_8 (by decide) rfl (fun hc => ?_) (fun hc => ?_)
  · replace hf := (if_pos hc).symm.trans hf
    refine xr_sub [] (lv2 := []) rfl ?_
    exact w_X4_loadOn_20 C hf ko
  · replace hf := (if_neg hc).symm.trans hf
    exact w_X4_loadOn_11 C hf ko
noncomputable def f_X4_loadOn_0 (M : mm_M) (v0 : Option Nat) (v1 : Int32) : Option (Int32) :=
  (mm_fI M v0 5 4).bind fun x1 =>
  if x1 = 0 then f_X4_loadOn_20 M else f_X4_loadOn_7 M v0 v1
set_option maxRecDepth 20000 in
theorem w_X4_loadOn_0 {g : mm_c} (C : mm_ok g cX4_loadOn "LessonCards$Evening" (some .int) "loadOn" 2 0 0 0 0) {M : mm_M} {v0 : Option Nat} {v1 : Int32} {res : Int32} (hf : f_X4_loadOn_0 M v0 v1 = some res) (ko : (fun z => mm_q g 0 0 (some (mm_i z)) M) res) : mm_X g 0 0 M 0 [(0, mm_r v0), (1, mm_i v1)] [] := by
  unfold f_X4_loadOn_0 at hf
  refine xr_aload_n 1 0 C dX4_loadOn_0 rfl rfl rfl ?_
  obtain ⟨x1, h1, hf⟩ := mm_bd_e hf
  refine xr_getI 4 C cf_X4_48 rfl h1 dX4_loadOn_1 rfl ?_
  refine xr_if_eq 20 7 C dX4_loadOn_4 (by decide) rfl (fun hc => ?_) (fun hc => ?_)
  · replace hf := (if_pos hc).symm.trans hf
    refine xr_sub [] (lv2 := []) rfl ?_
    exact w_X4_loadOn_20 C hf ko
  · replace hf := (if_neg hc).symm.trans hf
    exact w_X4_loadOn_7 C hf ko
noncomputable def f_X4_loadOn (M : mm_M) (v0 : Option Nat) (v1 : Int32) : Option (Int32) := f_X4_loadOn_0 M v0 v1
theorem c_X4_loadOn (l : Launch) (G : va_G) (cy : Nat → ClassId) {M : mm_M} {v0 : Option Nat} {v1 : Int32} {r : Int32} (hf : f_X4_loadOn M v0 v1 = some r) : mm_Met l yX4_loadOn cX4_loadOn 2 (some .int) 0 0 0 0 G cy [mm_r v0, mm_i v1] M (some (mm_i r)) M :=
  mm_enter (by decide) (Nat.le_of_ble_eq_true rfl) (fun p e R s m args below meth c Q C hq => xr_sub [0, 1] (lv2 := [(0, mm_r v0), (1, mm_i v1)]) rfl (w_X4_loadOn_0 C hf hq))
noncomputable def f_X4_dayOf_30 (M : mm_M) (s0 : Int32) : Option (Int32) :=
  some s0
set_option maxRecDepth 20000 in
theorem w_X4_dayOf_30 {g : mm_c} (C : mm_ok g cX4_dayOf "LessonCards$Evening" (some .int) "dayOf" 2 0 0 0 0) {M : mm_M} {s0 : Int32} {res : Int32} (hf : f_X4_dayOf_30 M s0 = some res) (ko : (fun z => mm_q g 0 0 (some (mm_i z)) M) res) : mm_X g 0 0 M 30 [] [mm_i s0] := by
  unfold f_X4_dayOf_30 at hf
  obtain rfl := Option.some.inj hf
  exact xr_iret C ko ⟨(Nat.le_of_ble_eq_true rfl), (Nat.le_of_ble_eq_true rfl)⟩ dX4_dayOf_30
noncomputable def f_X4_dayOf_20 (M : mm_M) : Option (Int32) :=
  f_X4_dayOf_30 M (-1)
set_option maxRecDepth 20000 in
theorem w_X4_dayOf_20 {g : mm_c} (C : mm_ok g cX4_dayOf "LessonCards$Evening" (some .int) "dayOf" 2 0 0 0 0) {M : mm_M} {res : Int32} (hf : f_X4_dayOf_20 M = some res) (ko : (fun z => mm_q g 0 0 (some (mm_i z)) M) res) : mm_X g 0 0 M 20 [] [] := by
  unfold f_X4_dayOf_20 at hf
  refine xr_iconst 21 C (v := (-1)) dX4_dayOf_20 (by decide) rfl ?_
  refine xr_goto 30 C dX4_dayOf_21 (by decide) ?_
  exact w_X4_dayOf_30 C hf ko
noncomputable def f_X4_dayOf_24 (M : mm_M) (v0 : Option Nat) (v1 : Int32) : Option (Int32) :=
  (mm_fR M v0 5 2).bind fun x25 =>
  (mm_aI M x25 12 v1).bind fun x29 =>
  f_X4_dayOf_30 M x29
set_option maxRecDepth 20000 in
theorem w_X4_dayOf_24 {g : mm_c} (C : mm_ok g cX4_dayOf "LessonCards$Evening" (some .int) "dayOf" 2 0 0 0 0) {M : mm_M} {v0 : Option Nat} {v1 : Int32} {res : Int32} (hf : f_X4_dayOf_24 M v0 v1 = some res) (ko : (fun z => mm_q g 0 0 (some (mm_i z)) M) res) : mm_X g 0 0 M 24 [(0, mm_r v0), (1, mm_i v1)] [] := by
  unfold f_X4_dayOf_24 at hf
  refine xr_aload_n 25 0 C dX4_dayOf_24 rfl rfl rfl ?_
  obtain ⟨x25, h25, hf⟩ := mm_bd_e hf
  refine xr_getR 28 C cf_X4_15 rfl h25 dX4_dayOf_25 rfl ?_
  refine xr_iload_n 29 1 C dX4_dayOf_28 rfl rfl rfl ?_
  obtain ⟨x29, h29, hf⟩ := mm_bd_e hf
  refine xr_aldI 30 C h29 dX4_dayOf_29 rfl ?_
  refine xr_sub [] (lv2 := []) rfl ?_
  exact w_X4_dayOf_30 C hf ko
noncomputable def f_X4_dayOf_11 (M : mm_M) (v0 : Option Nat) (v1 : Int32) : Option (Int32) :=
  (mm_fR M v0 5 2).bind fun x13 =>
  (mm_ln M x13).bind fun x16 =>
  if v1 < x16 then f_X4_dayOf_24 M v0 v1 else f_X4_dayOf_20 M
set_option maxRecDepth 20000 in
theorem w_X4_dayOf_11 {g : mm_c} (C : mm_ok g cX4_dayOf "LessonCards$Evening" (some .int) "dayOf" 2 0 0 0 0) {M : mm_M} {v0 : Option Nat} {v1 : Int32} {res : Int32} (hf : f_X4_dayOf_11 M v0 v1 = some res) (ko : (fun z => mm_q g 0 0 (some (mm_i z)) M) res) : mm_X g 0 0 M 11 [(0, mm_r v0), (1, mm_i v1)] [] := by
  unfold f_X4_dayOf_11 at hf
  refine xr_iload_n 12 1 C dX4_dayOf_11 rfl rfl rfl ?_
  refine xr_aload_n 13 0 C dX4_dayOf_12 rfl rfl rfl ?_
  obtain ⟨x13, h13, hf⟩ := mm_bd_e hf
  refine xr_getR 16 C cf_X4_15 rfl h13 dX4_dayOf_13 rfl ?_
  obtain ⟨x16, h16, hf⟩ := mm_bd_e hf
  refine xr_alen 17 C h16 dX4_dayOf_16 rfl ?_
  refine xr_icmp_lt 24 20 C dX4_dayOf_17 (by decide) rfl (fun hc => ?_) (fun hc => ?_)
  · replace hf := (if_pos hc).symm.trans hf
    exact w_X4_dayOf_24 C hf ko
  · replace hf := (if_neg hc).symm.trans hf
    refine xr_sub [] (lv2 := []) rfl ?_
    exact w_X4_dayOf_20 C hf ko
noncomputable def f_X4_dayOf_7 (M : mm_M) (v0 : Option Nat) (v1 : Int32) : Option (Int32) :=
  if v1 < 0 then f_X4_dayOf_20 M else f_X4_dayOf_11 M v0 v1
set_option maxRecDepth 20000 in
theorem w_X4_dayOf_7 {g : mm_c} (C : mm_ok g cX4_dayOf "LessonCards$Evening" (some .int) "dayOf" 2 0 0 0 0) {M : mm_M} {v0 : Option Nat} {v1 : Int32} {res : Int32} (hf : f_X4_dayOf_7 M v0 v1 = some res) (ko : (fun z => mm_q g 0 0 (some (mm_i z)) M) res) : mm_X g 0 0 M 7 [(0, mm_r v0), (1, mm_i v1)] [] := by
  unfold f_X4_dayOf_7 at hf
  refine xr_iload_n 8 1 C dX4_dayOf_7 rfl rfl rfl ?_
  refine xr_if_lt 20 11 C dX4_dayOf_8 (by decide) rfl (fun hc => ?_) (fun hc => ?_)
  · replace hf := (if_pos hc).symm.trans hf
    refine xr_sub [] (lv2 := []) rfl ?_
    exact w_X4_dayOf_20 C hf ko
  · replace hf := (if_neg hc).symm.trans hf
    exact w_X4_dayOf_11 C hf ko
noncomputable def f_X4_dayOf_0 (M : mm_M) (v0 : Option Nat) (v1 : Int32) : Option (Int32) :=
  (mm_fI M v0 5 4).bind fun x1 =>
  if x1 = 0 then f_X4_dayOf_20 M else f_X4_dayOf_7 M v0 v1
set_option maxRecDepth 20000 in
theorem w_X4_dayOf_0 {g : mm_c} (C : mm_ok g cX4_dayOf "LessonCards$Evening" (some .int) "dayOf" 2 0 0 0 0) {M : mm_M} {v0 : Option Nat} {v1 : Int32} {res : Int32} (hf : f_X4_dayOf_0 M v0 v1 = some res) (ko : (fun z => mm_q g 0 0 (some (mm_i z)) M) res) : mm_X g 0 0 M 0 [(0, mm_r v0), (1, mm_i v1)] [] := by
  unfold f_X4_dayOf_0 at hf
  refine xr_aload_n 1 0 C dX4_dayOf_0 rfl rfl rfl ?_
  obtain ⟨x1, h1, hf⟩ := mm_bd_e hf
  refine xr_getI 4 C cf_X4_48 rfl h1 dX4_dayOf_1 rfl ?_
  refine xr_if_eq 20 7 C dX4_dayOf_4 (by decide) rfl (fun hc => ?_) (fun hc => ?_)
  · replace hf := (if_pos hc).symm.trans hf
    refine xr_sub [] (lv2 := []) rfl ?_
    exact w_X4_dayOf_20 C hf ko
  · replace hf := (if_neg hc).symm.trans hf
    exact w_X4_dayOf_7 C hf ko
noncomputable def f_X4_dayOf (M : mm_M) (v0 : Option Nat) (v1 : Int32) : Option (Int32) := f_X4_dayOf_0 M v0 v1
theorem c_X4_dayOf (l : Launch) (G : va_G) (cy : Nat → ClassId) {M : mm_M} {v0 : Option Nat} {v1 : Int32} {r : Int32} (hf : f_X4_dayOf M v0 v1 = some r) : mm_Met l yX4_dayOf cX4_dayOf 2 (some .int) 0 0 0 0 G cy [mm_r v0, mm_i v1] M (some (mm_i r)) M :=
  mm_enter (by decide) (Nat.le_of_ble_eq_true rfl) (fun p e R s m args below meth c Q C hq => xr_sub [0, 1] (lv2 := [(0, mm_r v0), (1, mm_i v1)]) rfl (w_X4_dayOf_0 C hf hq))
noncomputable def f_X8_init_0 (M : mm_M) (v0 : Nat) : Option (mm_M) :=
  (mm_pI M (some v0) 9 1 2500).bind fun M8 =>
  (mm_pI M8 (some v0) 9 3 (-1)).bind fun M13 =>
  some M13
set_option maxRecDepth 20000 in
theorem w_X8_init_0 {g : mm_c} (C : mm_ok g cX8_init "LessonCards$Memory" none "<init>" 1 1 20 0 0) {M : mm_M} {v0 : Nat} {res : mm_M} (hf : f_X8_init_0 M v0 = some res) (ko : (fun z => mm_q g 0 0 none z) res) : mm_X g 0 0 M 0 [(0, mm_r (some v0))] [] := by
  unfold f_X8_init_0 at hf
  refine xr_aload_n 1 0 C dX8_init_0 rfl rfl rfl ?_
  refine xr_oinit 4 C wd_271 wd_72 wd_73 ⟨Nat.le_of_ble_eq_true rfl, Nat.le_of_ble_eq_true rfl⟩ (Nat.le_of_ble_eq_true rfl) dX8_init_1 rfl ?_
  refine xr_aload_n 5 0 C dX8_init_4 rfl rfl rfl ?_
  refine xr_sipush 8 C (v := 2500) dX8_init_5 (by decide) rfl ?_
  obtain ⟨M8, h8, hf⟩ := mm_bd_e hf
  refine xr_putI 11 C cf_X8_9 (fun h => by cases h) h8 dX8_init_8 rfl ?_
  refine xr_aload_n 12 0 C dX8_init_11 rfl rfl rfl ?_
  refine xr_iconst 13 C (v := (-1)) dX8_init_12 (by decide) rfl ?_
  obtain ⟨M13, h13, hf⟩ := mm_bd_e hf
  refine xr_putI 16 C cf_X8_15 (fun h => by cases h) h13 dX8_init_13 rfl ?_
  obtain rfl := Option.some.inj hf
  exact xr_vret C ko ⟨(Nat.le_of_ble_eq_true rfl), (Nat.le_of_ble_eq_true rfl)⟩ dX8_init_16
noncomputable def f_X8_init (M : mm_M) (v0 : Nat) : Option (mm_M) := f_X8_init_0 M v0
theorem c_X8_init (l : Launch) (G : va_G) (cy : Nat → ClassId) {M : mm_M} {v0 : Nat} {M1 : mm_M} (hf : f_X8_init M v0 = some M1) : mm_Met l yX8_init cX8_init 1 none 1 20 0 0 G cy [mm_r (some v0)] M none M1 :=
  mm_enter (by decide) (Nat.le_of_ble_eq_true rfl) (fun p e R s m args below meth c Q C hq => xr_sub [0] (lv2 := [(0, mm_r (some v0))]) rfl (w_X8_init_0 C hf hq))
def h_X5_init_23 (g : mm_c) (v0 : Nat) : (Nat × mm_M × Int32) → Prop := fun x => mm_X g (1 + 1 * x.1) (4 + 7 * x.1) x.2.1 23 [(0, mm_r (some v0)), (2, mm_i x.2.2)] []
noncomputable def f_X5_init_32 (M : mm_M) (c23 : Nat) (v0 : Nat) (v2 : Int32) : Option ((Nat × mm_M × Int32) ⊕ (mm_M)) :=
  (mm_fR M (some v0) 6 0).bind fun x33 =>
  mm_gd (c23 < 4) <|
  mm_le (mm_nw M (9, 0)) fun M37 =>
  (f_X8_init M37 (mm_n M)).bind fun M41 =>
  (mm_tR M41 x33 16 v2 (some (mm_n M))).bind fun M44 =>
  some (.inl ((c23 + 1), M44, (v2 + 1)))
set_option maxRecDepth 20000 in
theorem w_X5_init_32 {g : mm_c} (C : mm_ok g cX5_init "LessonCards$Hand" none "<init>" 3 2 40 5 32) {M : mm_M} {c23 : Nat} {v0 : Nat} {v2 : Int32} {res : (Nat × mm_M × Int32) ⊕ (mm_M)} (hf : f_X5_init_32 M c23 v0 v2 = some res) (ko : (mm_o (h_X5_init_23 g v0) (fun z => mm_q g 5 32 none z)) res) : mm_X g (1 + 1 * c23) (4 + 7 * c23) M 32 [(0, mm_r (some v0)), (2, mm_i v2)] [] := by
  unfold f_X5_init_32 at hf
  refine xr_aload_n 33 0 C dX5_init_32 rfl rfl rfl ?_
  obtain ⟨x33, h33, hf⟩ := mm_bd_e hf
  refine xr_getR 36 C cf_X5_11 rfl h33 dX5_init_33 rfl ?_
  refine xr_iload_n 37 1 C dX5_init_36 rfl rfl rfl ?_
  obtain ⟨hc23, hf⟩ := mm_gd_e hf
  obtain ⟨M37, h37, hf⟩ := mm_le_e hf
  refine xr_new 40 C (ci := 9) (Cn := RX8) (T := TX8) (N := 7) (ty := tyX8) rfl (by decide) in_X8 tyX8_ok nf_X8 wd_265 wd_267 wd_57 dX5_init_37 ⟨(by omega), (by omega)⟩ rfl h37 ?_
  refine xr_dup 41 C dX5_init_40 rfl rfl ?_
  obtain ⟨M41, h41, hf⟩ := mm_bd_e hf
  refine xr_callI 44 C [] cm_X5_17 (fun l G cy => c_X8_init l G cy h41) rfl rfl ⟨⟨Nat.le_of_ble_eq_true rfl, Nat.le_of_ble_eq_true rfl⟩, (by omega), (by omega)⟩ (Nat.le_of_ble_eq_true rfl) dX5_init_41 rfl ?_
  obtain ⟨M44, h44, hf⟩ := mm_bd_e hf
  refine xr_astR 45 C 16 (by decide) h44 dX5_init_44 rfl ?_
  refine xr_iinc 48 1 C dX5_init_45 rfl (by decide) (v := 1) (by decide) rfl [(2, mm_i (v2 + 1)), (0, mm_r (some v0))] rfl ?_
  refine xr_goto 23 C dX5_init_48 (by decide) ?_
  refine xr_sub [1, 0] (lv2 := [(0, mm_r (some v0)), (2, mm_i (v2 + 1))]) rfl ?_
  obtain rfl := Option.some.inj hf
  exact xr_widen (by omega) (by omega) ko
noncomputable def f_X5_init_51 (M : mm_M) : Option (mm_M) :=
  some M
set_option maxRecDepth 20000 in
theorem w_X5_init_51 {g : mm_c} (C : mm_ok g cX5_init "LessonCards$Hand" none "<init>" 3 2 40 5 32) {M : mm_M} {res : mm_M} (hf : f_X5_init_51 M = some res) (ko : (fun z => mm_q g 5 32 none z) res) : mm_X g 5 32 M 51 [] [] := by
  unfold f_X5_init_51 at hf
  obtain rfl := Option.some.inj hf
  exact xr_vret C ko ⟨(Nat.le_of_ble_eq_true rfl), (Nat.le_of_ble_eq_true rfl)⟩ dX5_init_51
noncomputable def f_X5_init_23 (M : mm_M) (c23 : Nat) (v0 : Nat) (v2 : Int32) : Option ((Nat × mm_M × Int32) ⊕ (mm_M)) :=
  (mm_fR M (some v0) 6 0).bind fun x25 =>
  (mm_ln M x25).bind fun x28 =>
  if x28 ≤ v2 then mm_gd (c23 ≤ 4) (mm_mp (f_X5_init_51 M)) else f_X5_init_32 M c23 v0 v2
set_option maxRecDepth 20000 in
theorem w_X5_init_23 {g : mm_c} (C : mm_ok g cX5_init "LessonCards$Hand" none "<init>" 3 2 40 5 32) {M : mm_M} {c23 : Nat} {v0 : Nat} {v2 : Int32} {res : (Nat × mm_M × Int32) ⊕ (mm_M)} (hf : f_X5_init_23 M c23 v0 v2 = some res) (ko : (mm_o (h_X5_init_23 g v0) (fun z => mm_q g 5 32 none z)) res) : mm_X g (1 + 1 * c23) (4 + 7 * c23) M 23 [(0, mm_r (some v0)), (2, mm_i v2)] [] := by
  unfold f_X5_init_23 at hf
  refine xr_iload_n 24 1 C dX5_init_23 rfl rfl rfl ?_
  refine xr_aload_n 25 0 C dX5_init_24 rfl rfl rfl ?_
  obtain ⟨x25, h25, hf⟩ := mm_bd_e hf
  refine xr_getR 28 C cf_X5_11 rfl h25 dX5_init_25 rfl ?_
  obtain ⟨x28, h28, hf⟩ := mm_bd_e hf
  refine xr_alen 29 C h28 dX5_init_28 rfl ?_
  refine xr_icmp_ge 51 32 C dX5_init_29 (by decide) rfl (fun hc => ?_) (fun hc => ?_)
  · replace hf := (if_pos hc).symm.trans hf
    refine xr_sub [] (lv2 := []) rfl ?_
    obtain ⟨hcx, hf⟩ := mm_gd_e hf
    obtain ⟨z, hf2, rfl⟩ := mm_mp_e hf
    clear hf
    have hf := hf2
    clear hf2
    refine xr_widen (k := 5) (n := 32) (by omega) (by omega) ?_
    exact w_X5_init_51 C hf ko
  · replace hf := (if_neg hc).symm.trans hf
    exact w_X5_init_32 C hf ko
noncomputable def f_X5_init_23w (M : mm_M) (v0 : Nat) (v2 : Int32) : Option (mm_M) := mm_w (fun x => f_X5_init_23 x.2.1 x.1 v0 x.2.2) (0, M, v2)
theorem l_X5_init_23 {g : mm_c} (C : mm_ok g cX5_init "LessonCards$Hand" none "<init>" 3 2 40 5 32) {M : mm_M} {v0 : Nat} {v2 : Int32} {res : mm_M} (hf : f_X5_init_23w M v0 v2 = some res) (ko : (fun z => mm_q g 5 32 none z) res) : mm_X g 1 4 M 23 [(0, mm_r (some v0)), (2, mm_i v2)] [] :=
  xr_widen (k := 1 + 1 * 0) (n := 4 + 7 * 0) (by omega) (by omega) <| mm_w_W (body := fun x => f_X5_init_23 x.2.1 x.1 v0 x.2.2) (Wh := h_X5_init_23 g v0) (ok := (fun z => mm_q g 5 32 none z)) (x := (0, M, v2)) (fun x r hb ho => w_X5_init_23 C hb ho) hf ko
noncomputable def f_X5_init_15 (M : mm_M) (v0 : Nat) (s0 : Option Nat) (s1 : Int32) : Option (mm_M) :=
  (mm_na M 16 s1 4).bind fun M15 =>
  (mm_pR M15 s0 6 0 (some (mm_n M))).bind fun M18 =>
  f_X5_init_23w M18 v0 0
set_option maxRecDepth 20000 in
theorem w_X5_init_15 {g : mm_c} (C : mm_ok g cX5_init "LessonCards$Hand" none "<init>" 3 2 40 5 32) {M : mm_M} {v0 : Nat} {s0 : Option Nat} {s1 : Int32} {res : mm_M} (hf : f_X5_init_15 M v0 s0 s1 = some res) (ko : (fun z => mm_q g 5 32 none z) res) : mm_X g 0 0 M 15 [(0, mm_r (some v0))] [mm_i s1, mm_r s0] := by
  unfold f_X5_init_15 at hf
  obtain ⟨M15, h15, hf⟩ := mm_bd_e hf
  refine xr_newq 18 C (lim := 4) (by decide) (by decide) wd_265 h15 dX5_init_15 ⟨(Nat.le_of_ble_eq_true rfl), (Nat.le_of_ble_eq_true rfl)⟩ rfl ?_
  obtain ⟨M18, h18, hf⟩ := mm_bd_e hf
  refine xr_putR 21 C cf_X5_11 (fun _ => ⟨rfl, co_6_0⟩) h18 dX5_init_18 rfl ?_
  refine xr_iconst 22 C (v := 0) dX5_init_21 (by decide) rfl ?_
  refine xr_istore_n 23 C dX5_init_22 rfl (by decide) rfl [(2, mm_i 0), (0, mm_r (some v0))] rfl ?_
  refine xr_sub [1, 0] (lv2 := [(0, mm_r (some v0)), (2, mm_i 0)]) rfl ?_
  exact l_X5_init_23 C hf ko
noncomputable def f_X5_init_10 (M : mm_M) (v0 : Nat) (s0 : Option Nat) : Option (mm_M) :=
  f_X5_init_15 M v0 s0 1
set_option maxRecDepth 20000 in
theorem w_X5_init_10 {g : mm_c} (C : mm_ok g cX5_init "LessonCards$Hand" none "<init>" 3 2 40 5 32) {M : mm_M} {v0 : Nat} {s0 : Option Nat} {res : mm_M} (hf : f_X5_init_10 M v0 s0 = some res) (ko : (fun z => mm_q g 5 32 none z) res) : mm_X g 0 0 M 10 [(0, mm_r (some v0))] [mm_r s0] := by
  unfold f_X5_init_10 at hf
  refine xr_iconst 11 C (v := 1) dX5_init_10 (by decide) rfl ?_
  refine xr_goto 15 C dX5_init_11 (by decide) ?_
  exact w_X5_init_15 C hf ko
noncomputable def f_X5_init_14 (M : mm_M) (v0 : Nat) (v1 : Int32) (s0 : Option Nat) : Option (mm_M) :=
  f_X5_init_15 M v0 s0 v1
set_option maxRecDepth 20000 in
theorem w_X5_init_14 {g : mm_c} (C : mm_ok g cX5_init "LessonCards$Hand" none "<init>" 3 2 40 5 32) {M : mm_M} {v0 : Nat} {v1 : Int32} {s0 : Option Nat} {res : mm_M} (hf : f_X5_init_14 M v0 v1 s0 = some res) (ko : (fun z => mm_q g 5 32 none z) res) : mm_X g 0 0 M 14 [(0, mm_r (some v0)), (1, mm_i v1)] [mm_r s0] := by
  unfold f_X5_init_14 at hf
  refine xr_iload_n 15 1 C dX5_init_14 rfl rfl rfl ?_
  refine xr_sub [0] (lv2 := [(0, mm_r (some v0))]) rfl ?_
  exact w_X5_init_15 C hf ko
noncomputable def f_X5_init_0 (M : mm_M) (v0 : Nat) (v1 : Int32) : Option (mm_M) :=
  if 1 ≤ v1 then f_X5_init_14 M v0 v1 (some v0) else f_X5_init_10 M v0 (some v0)
set_option maxRecDepth 20000 in
theorem w_X5_init_0 {g : mm_c} (C : mm_ok g cX5_init "LessonCards$Hand" none "<init>" 3 2 40 5 32) {M : mm_M} {v0 : Nat} {v1 : Int32} {res : mm_M} (hf : f_X5_init_0 M v0 v1 = some res) (ko : (fun z => mm_q g 5 32 none z) res) : mm_X g 0 0 M 0 [(0, mm_r (some v0)), (1, mm_i v1)] [] := by
  unfold f_X5_init_0 at hf
  refine xr_aload_n 1 0 C dX5_init_0 rfl rfl rfl ?_
  refine xr_oinit 4 C wd_264 wd_72 wd_73 ⟨Nat.le_of_ble_eq_true rfl, Nat.le_of_ble_eq_true rfl⟩ (Nat.le_of_ble_eq_true rfl) dX5_init_1 rfl ?_
  refine xr_aload_n 5 0 C dX5_init_4 rfl rfl rfl ?_
  refine xr_iload_n 6 1 C dX5_init_5 rfl rfl rfl ?_
  refine xr_iconst 7 C (v := 1) dX5_init_6 (by decide) rfl ?_
  refine xr_icmp_ge 14 10 C dX5_init_7 (by decide) rfl (fun hc => ?_) (fun hc => ?_)
  · replace hf := (if_pos hc).symm.trans hf
    exact w_X5_init_14 C hf ko
  · replace hf := (if_neg hc).symm.trans hf
    refine xr_sub [0] (lv2 := [(0, mm_r (some v0))]) rfl ?_
    exact w_X5_init_10 C hf ko
noncomputable def f_X5_init (M : mm_M) (v0 : Nat) (v1 : Int32) : Option (mm_M) := f_X5_init_0 M v0 v1
theorem c_X5_init (l : Launch) (G : va_G) (cy : Nat → ClassId) {M : mm_M} {v0 : Nat} {v1 : Int32} {M1 : mm_M} (hf : f_X5_init M v0 v1 = some M1) : mm_Met l yX5_init cX5_init 3 none 2 40 5 32 G cy [mm_r (some v0), mm_i v1] M none M1 :=
  mm_enter (by decide) (Nat.le_of_ble_eq_true rfl) (fun p e R s m args below meth c Q C hq => xr_sub [0, 1] (lv2 := [(0, mm_r (some v0)), (1, mm_i v1)]) rfl (w_X5_init_0 C hf hq))
noncomputable def f_X8_become_0 (M : mm_M) (v0 : Option Nat) (v1 : Option Nat) : Option (mm_M) :=
  (mm_fI M v1 9 0).bind fun x2 =>
  (mm_pI M v0 9 0 x2).bind fun M5 =>
  (mm_fI M5 v1 9 1).bind fun x10 =>
  (mm_pI M5 v0 9 1 x10).bind fun M13 =>
  (mm_fI M13 v1 9 2).bind fun x18 =>
  (mm_pI M13 v0 9 2 x18).bind fun M21 =>
  (mm_fI M21 v1 9 3).bind fun x26 =>
  (mm_pI M21 v0 9 3 x26).bind fun M29 =>
  (mm_fI M29 v1 9 4).bind fun x34 =>
  (mm_pI M29 v0 9 4 x34).bind fun M37 =>
  some M37
set_option maxRecDepth 20000 in
theorem w_X8_become_0 {g : mm_c} (C : mm_ok g cX8_become "LessonCards$Memory" none "become" 2 0 0 0 0) {M : mm_M} {v0 : Option Nat} {v1 : Option Nat} {res : mm_M} (hf : f_X8_become_0 M v0 v1 = some res) (ko : (fun z => mm_q g 0 0 none z) res) : mm_X g 0 0 M 0 [(0, mm_r v0), (1, mm_r v1)] [] := by
  unfold f_X8_become_0 at hf
  refine xr_aload_n 1 0 C dX8_become_0 rfl rfl rfl ?_
  refine xr_aload_n 2 1 C dX8_become_1 rfl rfl rfl ?_
  obtain ⟨x2, h2, hf⟩ := mm_bd_e hf
  refine xr_getI 5 C cf_X8_23 rfl h2 dX8_become_2 rfl ?_
  obtain ⟨M5, h5, hf⟩ := mm_bd_e hf
  refine xr_putI 8 C cf_X8_23 (fun h => by cases h) h5 dX8_become_5 rfl ?_
  refine xr_aload_n 9 0 C dX8_become_8 rfl rfl rfl ?_
  refine xr_aload_n 10 1 C dX8_become_9 rfl rfl rfl ?_
  obtain ⟨x10, h10, hf⟩ := mm_bd_e hf
  refine xr_getI 13 C cf_X8_9 rfl h10 dX8_become_10 rfl ?_
  obtain ⟨M13, h13, hf⟩ := mm_bd_e hf
  refine xr_putI 16 C cf_X8_9 (fun h => by cases h) h13 dX8_become_13 rfl ?_
  refine xr_aload_n 17 0 C dX8_become_16 rfl rfl rfl ?_
  refine xr_aload_n 18 1 C dX8_become_17 rfl rfl rfl ?_
  obtain ⟨x18, h18, hf⟩ := mm_bd_e hf
  refine xr_getI 21 C cf_X8_26 rfl h18 dX8_become_18 rfl ?_
  obtain ⟨M21, h21, hf⟩ := mm_bd_e hf
  refine xr_putI 24 C cf_X8_26 (fun h => by cases h) h21 dX8_become_21 rfl ?_
  refine xr_aload_n 25 0 C dX8_become_24 rfl rfl rfl ?_
  refine xr_aload_n 26 1 C dX8_become_25 rfl rfl rfl ?_
  obtain ⟨x26, h26, hf⟩ := mm_bd_e hf
  refine xr_getI 29 C cf_X8_15 rfl h26 dX8_become_26 rfl ?_
  obtain ⟨M29, h29, hf⟩ := mm_bd_e hf
  refine xr_putI 32 C cf_X8_15 (fun h => by cases h) h29 dX8_become_29 rfl ?_
  refine xr_aload_n 33 0 C dX8_become_32 rfl rfl rfl ?_
  refine xr_aload_n 34 1 C dX8_become_33 rfl rfl rfl ?_
  obtain ⟨x34, h34, hf⟩ := mm_bd_e hf
  refine xr_getI 37 C cf_X8_29 rfl h34 dX8_become_34 rfl ?_
  obtain ⟨M37, h37, hf⟩ := mm_bd_e hf
  refine xr_putI 40 C cf_X8_29 (fun h => by cases h) h37 dX8_become_37 rfl ?_
  obtain rfl := Option.some.inj hf
  exact xr_vret C ko ⟨(Nat.le_of_ble_eq_true rfl), (Nat.le_of_ble_eq_true rfl)⟩ dX8_become_40
noncomputable def f_X8_become (M : mm_M) (v0 : Option Nat) (v1 : Option Nat) : Option (mm_M) := f_X8_become_0 M v0 v1
theorem c_X8_become (l : Launch) (G : va_G) (cy : Nat → ClassId) {M : mm_M} {v0 : Option Nat} {v1 : Option Nat} {M1 : mm_M} (hf : f_X8_become M v0 v1 = some M1) : mm_Met l yX8_become cX8_become 2 none 0 0 0 0 G cy [mm_r v0, mm_r v1] M none M1 :=
  mm_enter (by decide) (Nat.le_of_ble_eq_true rfl) (fun p e R s m args below meth c Q C hq => xr_sub [0, 1] (lv2 := [(0, mm_r v0), (1, mm_r v1)]) rfl (w_X8_become_0 C hf hq))
def h_X5_become_2 (g : mm_c) (v0 : Option Nat) (v1 : Option Nat) : (mm_M × Int32) → Prop := fun x => mm_X g 0 0 x.1 2 [(0, mm_r v0), (1, mm_r v1), (2, mm_i x.2)] []
noncomputable def f_X5_become_44 (M : mm_M) (v0 : Option Nat) (v1 : Option Nat) (v2 : Int32) : Option ((mm_M × Int32) ⊕ (mm_M)) :=
  some (.inl (M, (v2 + 1)))
set_option maxRecDepth 20000 in
theorem w_X5_become_44 {g : mm_c} (C : mm_ok g cX5_become "LessonCards$Hand" none "become" 4 1 21 0 0) {M : mm_M} {v0 : Option Nat} {v1 : Option Nat} {v2 : Int32} {res : (mm_M × Int32) ⊕ (mm_M)} (hf : f_X5_become_44 M v0 v1 v2 = some res) (ko : (mm_o (h_X5_become_2 g v0 v1) (fun z => mm_q g 0 0 none z)) res) : mm_X g 0 0 M 44 [(0, mm_r v0), (1, mm_r v1), (2, mm_i v2)] [] := by
  unfold f_X5_become_44 at hf
  refine xr_iinc 47 2 C dX5_become_44 rfl (by decide) (v := 1) (by decide) rfl [(2, mm_i (v2 + 1)), (0, mm_r v0), (1, mm_r v1)] rfl ?_
  refine xr_goto 2 C dX5_become_47 (by decide) ?_
  refine xr_sub [1, 2, 0] (lv2 := [(0, mm_r v0), (1, mm_r v1), (2, mm_i (v2 + 1))]) rfl ?_
  obtain rfl := Option.some.inj hf
  exact ko
noncomputable def f_X5_become_21 (M : mm_M) (v0 : Option Nat) (v1 : Option Nat) (v2 : Int32) (v3 : Option Nat) : Option ((mm_M × Int32) ⊕ (mm_M)) :=
  (mm_fR M v0 6 0).bind fun x22 =>
  (mm_aR M x22 16 v2).bind fun x26 =>
  (mm_rc M x26 9).bind fun u28 =>
  (f_X8_become M x26 v3).bind fun M28 =>
  (mm_fR M28 v0 6 0).bind fun x32 =>
  (mm_aR M28 x32 16 v2).bind fun x36 =>
  (mm_fI M28 v3 9 5).bind fun x38 =>
  (mm_pZ M28 x36 9 5 x38).bind fun M41 =>
  f_X5_become_44 M41 v0 v1 v2
set_option maxRecDepth 20000 in
theorem w_X5_become_21 {g : mm_c} (C : mm_ok g cX5_become "LessonCards$Hand" none "become" 4 1 21 0 0) {M : mm_M} {v0 : Option Nat} {v1 : Option Nat} {v2 : Int32} {v3 : Option Nat} {res : (mm_M × Int32) ⊕ (mm_M)} (hf : f_X5_become_21 M v0 v1 v2 v3 = some res) (ko : (mm_o (h_X5_become_2 g v0 v1) (fun z => mm_q g 0 0 none z)) res) : mm_X g 0 0 M 21 [(0, mm_r v0), (1, mm_r v1), (2, mm_i v2), (3, mm_r v3)] [] := by
  unfold f_X5_become_21 at hf
  refine xr_aload_n 22 0 C dX5_become_21 rfl rfl rfl ?_
  obtain ⟨x22, h22, hf⟩ := mm_bd_e hf
  refine xr_getR 25 C cf_X5_11 rfl h22 dX5_become_22 rfl ?_
  refine xr_iload_n 26 2 C dX5_become_25 rfl rfl rfl ?_
  obtain ⟨x26, h26, hf⟩ := mm_bd_e hf
  refine xr_aldR 27 C 16 (by decide) h26 dX5_become_26 rfl ?_
  refine xr_aload_n 28 3 C dX5_become_27 rfl rfl rfl ?_
  obtain ⟨u28, g28, hf⟩ := mm_bd_e hf
  obtain ⟨M28, h28, hf⟩ := mm_bd_e hf
  refine xr_callV 31 C [mm_r v3] cm_X5_22 (fun l G cy => c_X8_become l G cy h28) g28 rfl rfl ⟨⟨Nat.le_of_ble_eq_true rfl, Nat.le_of_ble_eq_true rfl⟩, (Nat.le_of_ble_eq_true rfl), (Nat.le_of_ble_eq_true rfl)⟩ (Nat.le_of_ble_eq_true rfl) dX5_become_28 rfl ?_
  refine xr_aload_n 32 0 C dX5_become_31 rfl rfl rfl ?_
  obtain ⟨x32, h32, hf⟩ := mm_bd_e hf
  refine xr_getR 35 C cf_X5_11 rfl h32 dX5_become_32 rfl ?_
  refine xr_iload_n 36 2 C dX5_become_35 rfl rfl rfl ?_
  obtain ⟨x36, h36, hf⟩ := mm_bd_e hf
  refine xr_aldR 37 C 16 (by decide) h36 dX5_become_36 rfl ?_
  refine xr_aload_n 38 3 C dX5_become_37 rfl rfl rfl ?_
  obtain ⟨x38, h38, hf⟩ := mm_bd_e hf
  refine xr_getI 41 C cf_X5_26 rfl h38 dX5_become_38 rfl ?_
  obtain ⟨M41, h41, hf⟩ := mm_bd_e hf
  refine xr_putZ 44 C cf_X5_26 (fun h => by cases h) h41 dX5_become_41 rfl ?_
  refine xr_sub [0, 1, 2] (lv2 := [(0, mm_r v0), (1, mm_r v1), (2, mm_i v2)]) rfl ?_
  exact w_X5_become_44 C hf ko
noncomputable def f_X5_become_11 (M : mm_M) (v0 : Option Nat) (v1 : Option Nat) (v2 : Int32) : Option ((mm_M × Int32) ⊕ (mm_M)) :=
  (mm_rc M v1 6).bind fun u13 =>
  (f_X5_memoryAt M v1 v2).bind fun x13 =>
  if x13 = none then f_X5_become_44 M v0 v1 v2 else f_X5_become_21 M v0 v1 v2 x13
set_option maxRecDepth 20000 in
theorem w_X5_become_11 {g : mm_c} (C : mm_ok g cX5_become "LessonCards$Hand" none "become" 4 1 21 0 0) {M : mm_M} {v0 : Option Nat} {v1 : Option Nat} {v2 : Int32} {res : (mm_M × Int32) ⊕ (mm_M)} (hf : f_X5_become_11 M v0 v1 v2 = some res) (ko : (mm_o (h_X5_become_2 g v0 v1) (fun z => mm_q g 0 0 none z)) res) : mm_X g 0 0 M 11 [(0, mm_r v0), (1, mm_r v1), (2, mm_i v2)] [] := by
  unfold f_X5_become_11 at hf
  refine xr_aload_n 12 1 C dX5_become_11 rfl rfl rfl ?_
  refine xr_iload_n 13 2 C dX5_become_12 rfl rfl rfl ?_
  obtain ⟨u13, g13, hf⟩ := mm_bd_e hf
  obtain ⟨x13, h13, hf⟩ := mm_bd_e hf
  refine xr_callV 16 C [mm_i v2] cm_X5_18 (fun l G cy => c_X5_memoryAt l G cy h13) g13 rfl rfl ⟨⟨Nat.le_of_ble_eq_true rfl, Nat.le_of_ble_eq_true rfl⟩, (Nat.le_of_ble_eq_true rfl), (Nat.le_of_ble_eq_true rfl)⟩ (Nat.le_of_ble_eq_true rfl) dX5_become_13 rfl ?_
  refine xr_astore_n 17 C dX5_become_16 rfl (by decide) rfl [(3, mm_r x13), (0, mm_r v0), (1, mm_r v1), (2, mm_i v2)] rfl ?_
  refine xr_aload_n 18 0 C dX5_become_17 rfl rfl rfl ?_
  refine xr_ifnull 44 21 C dX5_become_18 (by decide) rfl (fun hc => ?_) (fun hc => ?_)
  · replace hf := (if_pos hc).symm.trans hf
    refine xr_sub [1, 2, 3] (lv2 := [(0, mm_r v0), (1, mm_r v1), (2, mm_i v2)]) rfl ?_
    exact w_X5_become_44 C hf ko
  · replace hf := (if_neg hc).symm.trans hf
    refine xr_sub [1, 2, 3, 0] (lv2 := [(0, mm_r v0), (1, mm_r v1), (2, mm_i v2), (3, mm_r x13)]) rfl ?_
    exact w_X5_become_21 C hf ko
noncomputable def f_X5_become_50 (M : mm_M) : Option (mm_M) :=
  some M
set_option maxRecDepth 20000 in
theorem w_X5_become_50 {g : mm_c} (C : mm_ok g cX5_become "LessonCards$Hand" none "become" 4 1 21 0 0) {M : mm_M} {res : mm_M} (hf : f_X5_become_50 M = some res) (ko : (fun z => mm_q g 0 0 none z) res) : mm_X g 0 0 M 50 [] [] := by
  unfold f_X5_become_50 at hf
  obtain rfl := Option.some.inj hf
  exact xr_vret C ko ⟨(Nat.le_of_ble_eq_true rfl), (Nat.le_of_ble_eq_true rfl)⟩ dX5_become_50
noncomputable def f_X5_become_2 (M : mm_M) (v0 : Option Nat) (v1 : Option Nat) (v2 : Int32) : Option ((mm_M × Int32) ⊕ (mm_M)) :=
  (mm_fR M v0 6 0).bind fun x4 =>
  (mm_ln M x4).bind fun x7 =>
  if x7 ≤ v2 then mm_mp (f_X5_become_50 M) else f_X5_become_11 M v0 v1 v2
set_option maxRecDepth 20000 in
theorem w_X5_become_2 {g : mm_c} (C : mm_ok g cX5_become "LessonCards$Hand" none "become" 4 1 21 0 0) {M : mm_M} {v0 : Option Nat} {v1 : Option Nat} {v2 : Int32} {res : (mm_M × Int32) ⊕ (mm_M)} (hf : f_X5_become_2 M v0 v1 v2 = some res) (ko : (mm_o (h_X5_become_2 g v0 v1) (fun z => mm_q g 0 0 none z)) res) : mm_X g 0 0 M 2 [(0, mm_r v0), (1, mm_r v1), (2, mm_i v2)] [] := by
  unfold f_X5_become_2 at hf
  refine xr_iload_n 3 2 C dX5_become_2 rfl rfl rfl ?_
  refine xr_aload_n 4 0 C dX5_become_3 rfl rfl rfl ?_
  obtain ⟨x4, h4, hf⟩ := mm_bd_e hf
  refine xr_getR 7 C cf_X5_11 rfl h4 dX5_become_4 rfl ?_
  obtain ⟨x7, h7, hf⟩ := mm_bd_e hf
  refine xr_alen 8 C h7 dX5_become_7 rfl ?_
  refine xr_icmp_ge 50 11 C dX5_become_8 (by decide) rfl (fun hc => ?_) (fun hc => ?_)
  · replace hf := (if_pos hc).symm.trans hf
    refine xr_sub [] (lv2 := []) rfl ?_
    obtain ⟨z, hf2, rfl⟩ := mm_mp_e hf
    clear hf
    have hf := hf2
    clear hf2
    exact w_X5_become_50 C hf ko
  · replace hf := (if_neg hc).symm.trans hf
    exact w_X5_become_11 C hf ko
noncomputable def f_X5_become_2w (M : mm_M) (v0 : Option Nat) (v1 : Option Nat) (v2 : Int32) : Option (mm_M) := mm_w (fun x => f_X5_become_2 x.1 v0 v1 x.2) (M, v2)
theorem l_X5_become_2 {g : mm_c} (C : mm_ok g cX5_become "LessonCards$Hand" none "become" 4 1 21 0 0) {M : mm_M} {v0 : Option Nat} {v1 : Option Nat} {v2 : Int32} {res : mm_M} (hf : f_X5_become_2w M v0 v1 v2 = some res) (ko : (fun z => mm_q g 0 0 none z) res) : mm_X g 0 0 M 2 [(0, mm_r v0), (1, mm_r v1), (2, mm_i v2)] [] :=
  mm_w_W (body := fun x => f_X5_become_2 x.1 v0 v1 x.2) (Wh := h_X5_become_2 g v0 v1) (ok := (fun z => mm_q g 0 0 none z)) (x := (M, v2)) (fun x r hb ho => w_X5_become_2 C hb ho) hf ko
noncomputable def f_X5_become_0 (M : mm_M) (v0 : Option Nat) (v1 : Option Nat) : Option (mm_M) :=
  f_X5_become_2w M v0 v1 0
set_option maxRecDepth 20000 in
theorem w_X5_become_0 {g : mm_c} (C : mm_ok g cX5_become "LessonCards$Hand" none "become" 4 1 21 0 0) {M : mm_M} {v0 : Option Nat} {v1 : Option Nat} {res : mm_M} (hf : f_X5_become_0 M v0 v1 = some res) (ko : (fun z => mm_q g 0 0 none z) res) : mm_X g 0 0 M 0 [(0, mm_r v0), (1, mm_r v1)] [] := by
  unfold f_X5_become_0 at hf
  refine xr_iconst 1 C (v := 0) dX5_become_0 (by decide) rfl ?_
  refine xr_istore_n 2 C dX5_become_1 rfl (by decide) rfl [(2, mm_i 0), (0, mm_r v0), (1, mm_r v1)] rfl ?_
  refine xr_sub [1, 2, 0] (lv2 := [(0, mm_r v0), (1, mm_r v1), (2, mm_i 0)]) rfl ?_
  exact l_X5_become_2 C hf ko
noncomputable def f_X5_become (M : mm_M) (v0 : Option Nat) (v1 : Option Nat) : Option (mm_M) := f_X5_become_0 M v0 v1
theorem c_X5_become (l : Launch) (G : va_G) (cy : Nat → ClassId) {M : mm_M} {v0 : Option Nat} {v1 : Option Nat} {M1 : mm_M} (hf : f_X5_become M v0 v1 = some M1) : mm_Met l yX5_become cX5_become 4 none 1 21 0 0 G cy [mm_r v0, mm_r v1] M none M1 :=
  mm_enter (by decide) (Nat.le_of_ble_eq_true rfl) (fun p e R s m args below meth c Q C hq => xr_sub [0, 1] (lv2 := [(0, mm_r v0), (1, mm_r v1)]) rfl (w_X5_become_0 C hf hq))
noncomputable def f_X8_forget_0 (M : mm_M) (v0 : Option Nat) : Option (mm_M) :=
  (mm_pI M v0 9 0 0).bind fun M2 =>
  (mm_pI M2 v0 9 1 2500).bind fun M9 =>
  (mm_pI M9 v0 9 2 0).bind fun M14 =>
  (mm_pI M14 v0 9 3 (-1)).bind fun M19 =>
  (mm_pI M19 v0 9 4 0).bind fun M24 =>
  some M24
set_option maxRecDepth 20000 in
theorem w_X8_forget_0 {g : mm_c} (C : mm_ok g cX8_forget "LessonCards$Memory" none "forget" 1 0 0 0 0) {M : mm_M} {v0 : Option Nat} {res : mm_M} (hf : f_X8_forget_0 M v0 = some res) (ko : (fun z => mm_q g 0 0 none z) res) : mm_X g 0 0 M 0 [(0, mm_r v0)] [] := by
  unfold f_X8_forget_0 at hf
  refine xr_aload_n 1 0 C dX8_forget_0 rfl rfl rfl ?_
  refine xr_iconst 2 C (v := 0) dX8_forget_1 (by decide) rfl ?_
  obtain ⟨M2, h2, hf⟩ := mm_bd_e hf
  refine xr_putI 5 C cf_X8_23 (fun h => by cases h) h2 dX8_forget_2 rfl ?_
  refine xr_aload_n 6 0 C dX8_forget_5 rfl rfl rfl ?_
  refine xr_sipush 9 C (v := 2500) dX8_forget_6 (by decide) rfl ?_
  obtain ⟨M9, h9, hf⟩ := mm_bd_e hf
  refine xr_putI 12 C cf_X8_9 (fun h => by cases h) h9 dX8_forget_9 rfl ?_
  refine xr_aload_n 13 0 C dX8_forget_12 rfl rfl rfl ?_
  refine xr_iconst 14 C (v := 0) dX8_forget_13 (by decide) rfl ?_
  obtain ⟨M14, h14, hf⟩ := mm_bd_e hf
  refine xr_putI 17 C cf_X8_26 (fun h => by cases h) h14 dX8_forget_14 rfl ?_
  refine xr_aload_n 18 0 C dX8_forget_17 rfl rfl rfl ?_
  refine xr_iconst 19 C (v := (-1)) dX8_forget_18 (by decide) rfl ?_
  obtain ⟨M19, h19, hf⟩ := mm_bd_e hf
  refine xr_putI 22 C cf_X8_15 (fun h => by cases h) h19 dX8_forget_19 rfl ?_
  refine xr_aload_n 23 0 C dX8_forget_22 rfl rfl rfl ?_
  refine xr_iconst 24 C (v := 0) dX8_forget_23 (by decide) rfl ?_
  obtain ⟨M24, h24, hf⟩ := mm_bd_e hf
  refine xr_putI 27 C cf_X8_29 (fun h => by cases h) h24 dX8_forget_24 rfl ?_
  obtain rfl := Option.some.inj hf
  exact xr_vret C ko ⟨(Nat.le_of_ble_eq_true rfl), (Nat.le_of_ble_eq_true rfl)⟩ dX8_forget_27
noncomputable def f_X8_forget (M : mm_M) (v0 : Option Nat) : Option (mm_M) := f_X8_forget_0 M v0
theorem c_X8_forget (l : Launch) (G : va_G) (cy : Nat → ClassId) {M : mm_M} {v0 : Option Nat} {M1 : mm_M} (hf : f_X8_forget M v0 = some M1) : mm_Met l yX8_forget cX8_forget 1 none 0 0 0 0 G cy [mm_r v0] M none M1 :=
  mm_enter (by decide) (Nat.le_of_ble_eq_true rfl) (fun p e R s m args below meth c Q C hq => xr_sub [0] (lv2 := [(0, mm_r v0)]) rfl (w_X8_forget_0 C hf hq))
def h_X5_forgetAll_2 (g : mm_c) (v0 : Option Nat) : (mm_M × Int32) → Prop := fun x => mm_X g 0 0 x.1 2 [(0, mm_r v0), (1, mm_i x.2)] []
noncomputable def f_X5_forgetAll_11 (M : mm_M) (v0 : Option Nat) (v1 : Int32) : Option ((mm_M × Int32) ⊕ (mm_M)) :=
  (mm_fR M v0 6 0).bind fun x12 =>
  (mm_aR M x12 16 v1).bind fun x16 =>
  (mm_rc M x16 9).bind fun u17 =>
  (f_X8_forget M x16).bind fun M17 =>
  some (.inl (M17, (v1 + 1)))
set_option maxRecDepth 20000 in
theorem w_X5_forgetAll_11 {g : mm_c} (C : mm_ok g cX5_forgetAll "LessonCards$Hand" none "forgetAll" 2 1 20 0 0) {M : mm_M} {v0 : Option Nat} {v1 : Int32} {res : (mm_M × Int32) ⊕ (mm_M)} (hf : f_X5_forgetAll_11 M v0 v1 = some res) (ko : (mm_o (h_X5_forgetAll_2 g v0) (fun z => mm_q g 0 0 none z)) res) : mm_X g 0 0 M 11 [(0, mm_r v0), (1, mm_i v1)] [] := by
  unfold f_X5_forgetAll_11 at hf
  refine xr_aload_n 12 0 C dX5_forgetAll_11 rfl rfl rfl ?_
  obtain ⟨x12, h12, hf⟩ := mm_bd_e hf
  refine xr_getR 15 C cf_X5_11 rfl h12 dX5_forgetAll_12 rfl ?_
  refine xr_iload_n 16 1 C dX5_forgetAll_15 rfl rfl rfl ?_
  obtain ⟨x16, h16, hf⟩ := mm_bd_e hf
  refine xr_aldR 17 C 16 (by decide) h16 dX5_forgetAll_16 rfl ?_
  obtain ⟨u17, g17, hf⟩ := mm_bd_e hf
  obtain ⟨M17, h17, hf⟩ := mm_bd_e hf
  refine xr_callV 20 C [] cm_X5_30 (fun l G cy => c_X8_forget l G cy h17) g17 rfl rfl ⟨⟨Nat.le_of_ble_eq_true rfl, Nat.le_of_ble_eq_true rfl⟩, (Nat.le_of_ble_eq_true rfl), (Nat.le_of_ble_eq_true rfl)⟩ (Nat.le_of_ble_eq_true rfl) dX5_forgetAll_17 rfl ?_
  refine xr_iinc 23 1 C dX5_forgetAll_20 rfl (by decide) (v := 1) (by decide) rfl [(1, mm_i (v1 + 1)), (0, mm_r v0)] rfl ?_
  refine xr_goto 2 C dX5_forgetAll_23 (by decide) ?_
  refine xr_sub [1, 0] (lv2 := [(0, mm_r v0), (1, mm_i (v1 + 1))]) rfl ?_
  obtain rfl := Option.some.inj hf
  exact ko
noncomputable def f_X5_forgetAll_26 (M : mm_M) : Option (mm_M) :=
  some M
set_option maxRecDepth 20000 in
theorem w_X5_forgetAll_26 {g : mm_c} (C : mm_ok g cX5_forgetAll "LessonCards$Hand" none "forgetAll" 2 1 20 0 0) {M : mm_M} {res : mm_M} (hf : f_X5_forgetAll_26 M = some res) (ko : (fun z => mm_q g 0 0 none z) res) : mm_X g 0 0 M 26 [] [] := by
  unfold f_X5_forgetAll_26 at hf
  obtain rfl := Option.some.inj hf
  exact xr_vret C ko ⟨(Nat.le_of_ble_eq_true rfl), (Nat.le_of_ble_eq_true rfl)⟩ dX5_forgetAll_26
noncomputable def f_X5_forgetAll_2 (M : mm_M) (v0 : Option Nat) (v1 : Int32) : Option ((mm_M × Int32) ⊕ (mm_M)) :=
  (mm_fR M v0 6 0).bind fun x4 =>
  (mm_ln M x4).bind fun x7 =>
  if x7 ≤ v1 then mm_mp (f_X5_forgetAll_26 M) else f_X5_forgetAll_11 M v0 v1
set_option maxRecDepth 20000 in
theorem w_X5_forgetAll_2 {g : mm_c} (C : mm_ok g cX5_forgetAll "LessonCards$Hand" none "forgetAll" 2 1 20 0 0) {M : mm_M} {v0 : Option Nat} {v1 : Int32} {res : (mm_M × Int32) ⊕ (mm_M)} (hf : f_X5_forgetAll_2 M v0 v1 = some res) (ko : (mm_o (h_X5_forgetAll_2 g v0) (fun z => mm_q g 0 0 none z)) res) : mm_X g 0 0 M 2 [(0, mm_r v0), (1, mm_i v1)] [] := by
  unfold f_X5_forgetAll_2 at hf
  refine xr_iload_n 3 1 C dX5_forgetAll_2 rfl rfl rfl ?_
  refine xr_aload_n 4 0 C dX5_forgetAll_3 rfl rfl rfl ?_
  obtain ⟨x4, h4, hf⟩ := mm_bd_e hf
  refine xr_getR 7 C cf_X5_11 rfl h4 dX5_forgetAll_4 rfl ?_
  obtain ⟨x7, h7, hf⟩ := mm_bd_e hf
  refine xr_alen 8 C h7 dX5_forgetAll_7 rfl ?_
  refine xr_icmp_ge 26 11 C dX5_forgetAll_8 (by decide) rfl (fun hc => ?_) (fun hc => ?_)
  · replace hf := (if_pos hc).symm.trans hf
    refine xr_sub [] (lv2 := []) rfl ?_
    obtain ⟨z, hf2, rfl⟩ := mm_mp_e hf
    clear hf
    have hf := hf2
    clear hf2
    exact w_X5_forgetAll_26 C hf ko
  · replace hf := (if_neg hc).symm.trans hf
    exact w_X5_forgetAll_11 C hf ko
noncomputable def f_X5_forgetAll_2w (M : mm_M) (v0 : Option Nat) (v1 : Int32) : Option (mm_M) := mm_w (fun x => f_X5_forgetAll_2 x.1 v0 x.2) (M, v1)
theorem l_X5_forgetAll_2 {g : mm_c} (C : mm_ok g cX5_forgetAll "LessonCards$Hand" none "forgetAll" 2 1 20 0 0) {M : mm_M} {v0 : Option Nat} {v1 : Int32} {res : mm_M} (hf : f_X5_forgetAll_2w M v0 v1 = some res) (ko : (fun z => mm_q g 0 0 none z) res) : mm_X g 0 0 M 2 [(0, mm_r v0), (1, mm_i v1)] [] :=
  mm_w_W (body := fun x => f_X5_forgetAll_2 x.1 v0 x.2) (Wh := h_X5_forgetAll_2 g v0) (ok := (fun z => mm_q g 0 0 none z)) (x := (M, v1)) (fun x r hb ho => w_X5_forgetAll_2 C hb ho) hf ko
noncomputable def f_X5_forgetAll_0 (M : mm_M) (v0 : Option Nat) : Option (mm_M) :=
  f_X5_forgetAll_2w M v0 0
set_option maxRecDepth 20000 in
theorem w_X5_forgetAll_0 {g : mm_c} (C : mm_ok g cX5_forgetAll "LessonCards$Hand" none "forgetAll" 2 1 20 0 0) {M : mm_M} {v0 : Option Nat} {res : mm_M} (hf : f_X5_forgetAll_0 M v0 = some res) (ko : (fun z => mm_q g 0 0 none z) res) : mm_X g 0 0 M 0 [(0, mm_r v0)] [] := by
  unfold f_X5_forgetAll_0 at hf
  refine xr_iconst 1 C (v := 0) dX5_forgetAll_0 (by decide) rfl ?_
  refine xr_istore_n 2 C dX5_forgetAll_1 rfl (by decide) rfl [(1, mm_i 0), (0, mm_r v0)] rfl ?_
  refine xr_sub [1, 0] (lv2 := [(0, mm_r v0), (1, mm_i 0)]) rfl ?_
  exact l_X5_forgetAll_2 C hf ko
noncomputable def f_X5_forgetAll (M : mm_M) (v0 : Option Nat) : Option (mm_M) := f_X5_forgetAll_0 M v0
theorem c_X5_forgetAll (l : Launch) (G : va_G) (cy : Nat → ClassId) {M : mm_M} {v0 : Option Nat} {M1 : mm_M} (hf : f_X5_forgetAll M v0 = some M1) : mm_Met l yX5_forgetAll cX5_forgetAll 2 none 1 20 0 0 G cy [mm_r v0] M none M1 :=
  mm_enter (by decide) (Nat.le_of_ble_eq_true rfl) (fun p e R s m args below meth c Q C hq => xr_sub [0] (lv2 := [(0, mm_r v0)]) rfl (w_X5_forgetAll_0 C hf hq))
noncomputable def f_X8_forgetToday_0 (M : mm_M) (v0 : Option Nat) : Option (mm_M) :=
  (mm_pZ M v0 9 5 0).bind fun M2 =>
  (mm_pI M2 v0 9 6 0).bind fun M7 =>
  some M7
set_option maxRecDepth 20000 in
theorem w_X8_forgetToday_0 {g : mm_c} (C : mm_ok g cX8_forgetToday "LessonCards$Memory" none "forgetToday" 1 0 0 0 0) {M : mm_M} {v0 : Option Nat} {res : mm_M} (hf : f_X8_forgetToday_0 M v0 = some res) (ko : (fun z => mm_q g 0 0 none z) res) : mm_X g 0 0 M 0 [(0, mm_r v0)] [] := by
  unfold f_X8_forgetToday_0 at hf
  refine xr_aload_n 1 0 C dX8_forgetToday_0 rfl rfl rfl ?_
  refine xr_iconst 2 C (v := 0) dX8_forgetToday_1 (by decide) rfl ?_
  obtain ⟨M2, h2, hf⟩ := mm_bd_e hf
  refine xr_putZ 5 C cf_X8_32 (fun h => by cases h) h2 dX8_forgetToday_2 rfl ?_
  refine xr_aload_n 6 0 C dX8_forgetToday_5 rfl rfl rfl ?_
  refine xr_iconst 7 C (v := 0) dX8_forgetToday_6 (by decide) rfl ?_
  obtain ⟨M7, h7, hf⟩ := mm_bd_e hf
  refine xr_putI 10 C cf_X8_36 (fun h => by cases h) h7 dX8_forgetToday_7 rfl ?_
  obtain rfl := Option.some.inj hf
  exact xr_vret C ko ⟨(Nat.le_of_ble_eq_true rfl), (Nat.le_of_ble_eq_true rfl)⟩ dX8_forgetToday_10
noncomputable def f_X8_forgetToday (M : mm_M) (v0 : Option Nat) : Option (mm_M) := f_X8_forgetToday_0 M v0
theorem c_X8_forgetToday (l : Launch) (G : va_G) (cy : Nat → ClassId) {M : mm_M} {v0 : Option Nat} {M1 : mm_M} (hf : f_X8_forgetToday M v0 = some M1) : mm_Met l yX8_forgetToday cX8_forgetToday 1 none 0 0 0 0 G cy [mm_r v0] M none M1 :=
  mm_enter (by decide) (Nat.le_of_ble_eq_true rfl) (fun p e R s m args below meth c Q C hq => xr_sub [0] (lv2 := [(0, mm_r v0)]) rfl (w_X8_forgetToday_0 C hf hq))
def h_X5_forgetToday_2 (g : mm_c) (v0 : Option Nat) : (mm_M × Int32) → Prop := fun x => mm_X g 0 0 x.1 2 [(0, mm_r v0), (1, mm_i x.2)] []
noncomputable def f_X5_forgetToday_11 (M : mm_M) (v0 : Option Nat) (v1 : Int32) : Option ((mm_M × Int32) ⊕ (mm_M)) :=
  (mm_fR M v0 6 0).bind fun x12 =>
  (mm_aR M x12 16 v1).bind fun x16 =>
  (mm_rc M x16 9).bind fun u17 =>
  (f_X8_forgetToday M x16).bind fun M17 =>
  some (.inl (M17, (v1 + 1)))
set_option maxRecDepth 20000 in
theorem w_X5_forgetToday_11 {g : mm_c} (C : mm_ok g cX5_forgetToday "LessonCards$Hand" none "forgetToday" 2 1 20 0 0) {M : mm_M} {v0 : Option Nat} {v1 : Int32} {res : (mm_M × Int32) ⊕ (mm_M)} (hf : f_X5_forgetToday_11 M v0 v1 = some res) (ko : (mm_o (h_X5_forgetToday_2 g v0) (fun z => mm_q g 0 0 none z)) res) : mm_X g 0 0 M 11 [(0, mm_r v0), (1, mm_i v1)] [] := by
  unfold f_X5_forgetToday_11 at hf
  refine xr_aload_n 12 0 C dX5_forgetToday_11 rfl rfl rfl ?_
  obtain ⟨x12, h12, hf⟩ := mm_bd_e hf
  refine xr_getR 15 C cf_X5_11 rfl h12 dX5_forgetToday_12 rfl ?_
  refine xr_iload_n 16 1 C dX5_forgetToday_15 rfl rfl rfl ?_
  obtain ⟨x16, h16, hf⟩ := mm_bd_e hf
  refine xr_aldR 17 C 16 (by decide) h16 dX5_forgetToday_16 rfl ?_
  obtain ⟨u17, g17, hf⟩ := mm_bd_e hf
  obtain ⟨M17, h17, hf⟩ := mm_bd_e hf
  refine xr_callV 20 C [] cm_X5_33 (fun l G cy => c_X8_forgetToday l G cy h17) g17 rfl rfl ⟨⟨Nat.le_of_ble_eq_true rfl, Nat.le_of_ble_eq_true rfl⟩, (Nat.le_of_ble_eq_true rfl), (Nat.le_of_ble_eq_true rfl)⟩ (Nat.le_of_ble_eq_true rfl) dX5_forgetToday_17 rfl ?_
  refine xr_iinc 23 1 C dX5_forgetToday_20 rfl (by decide) (v := 1) (by decide) rfl [(1, mm_i (v1 + 1)), (0, mm_r v0)] rfl ?_
  refine xr_goto 2 C dX5_forgetToday_23 (by decide) ?_
  refine xr_sub [1, 0] (lv2 := [(0, mm_r v0), (1, mm_i (v1 + 1))]) rfl ?_
  obtain rfl := Option.some.inj hf
  exact ko
noncomputable def f_X5_forgetToday_26 (M : mm_M) : Option (mm_M) :=
  some M
set_option maxRecDepth 20000 in
theorem w_X5_forgetToday_26 {g : mm_c} (C : mm_ok g cX5_forgetToday "LessonCards$Hand" none "forgetToday" 2 1 20 0 0) {M : mm_M} {res : mm_M} (hf : f_X5_forgetToday_26 M = some res) (ko : (fun z => mm_q g 0 0 none z) res) : mm_X g 0 0 M 26 [] [] := by
  unfold f_X5_forgetToday_26 at hf
  obtain rfl := Option.some.inj hf
  exact xr_vret C ko ⟨(Nat.le_of_ble_eq_true rfl), (Nat.le_of_ble_eq_true rfl)⟩ dX5_forgetToday_26
noncomputable def f_X5_forgetToday_2 (M : mm_M) (v0 : Option Nat) (v1 : Int32) : Option ((mm_M × Int32) ⊕ (mm_M)) :=
  (mm_fR M v0 6 0).bind fun x4 =>
  (mm_ln M x4).bind fun x7 =>
  if x7 ≤ v1 then mm_mp (f_X5_forgetToday_26 M) else f_X5_forgetToday_11 M v0 v1
set_option maxRecDepth 20000 in
theorem w_X5_forgetToday_2 {g : mm_c} (C : mm_ok g cX5_forgetToday "LessonCards$Hand" none "forgetToday" 2 1 20 0 0) {M : mm_M} {v0 : Option Nat} {v1 : Int32} {res : (mm_M × Int32) ⊕ (mm_M)} (hf : f_X5_forgetToday_2 M v0 v1 = some res) (ko : (mm_o (h_X5_forgetToday_2 g v0) (fun z => mm_q g 0 0 none z)) res) : mm_X g 0 0 M 2 [(0, mm_r v0), (1, mm_i v1)] [] := by
  unfold f_X5_forgetToday_2 at hf
  refine xr_iload_n 3 1 C dX5_forgetToday_2 rfl rfl rfl ?_
  refine xr_aload_n 4 0 C dX5_forgetToday_3 rfl rfl rfl ?_
  obtain ⟨x4, h4, hf⟩ := mm_bd_e hf
  refine xr_getR 7 C cf_X5_11 rfl h4 dX5_forgetToday_4 rfl ?_
  obtain ⟨x7, h7, hf⟩ := mm_bd_e hf
  refine xr_alen 8 C h7 dX5_forgetToday_7 rfl ?_
  refine xr_icmp_ge 26 11 C dX5_forgetToday_8 (by decide) rfl (fun hc => ?_) (fun hc => ?_)
  · replace hf := (if_pos hc).symm.trans hf
    refine xr_sub [] (lv2 := []) rfl ?_
    obtain ⟨z, hf2, rfl⟩ := mm_mp_e hf
    clear hf
    have hf := hf2
    clear hf2
    exact w_X5_forgetToday_26 C hf ko
  · replace hf := (if_neg hc).symm.trans hf
    exact w_X5_forgetToday_11 C hf ko
noncomputable def f_X5_forgetToday_2w (M : mm_M) (v0 : Option Nat) (v1 : Int32) : Option (mm_M) := mm_w (fun x => f_X5_forgetToday_2 x.1 v0 x.2) (M, v1)
theorem l_X5_forgetToday_2 {g : mm_c} (C : mm_ok g cX5_forgetToday "LessonCards$Hand" none "forgetToday" 2 1 20 0 0) {M : mm_M} {v0 : Option Nat} {v1 : Int32} {res : mm_M} (hf : f_X5_forgetToday_2w M v0 v1 = some res) (ko : (fun z => mm_q g 0 0 none z) res) : mm_X g 0 0 M 2 [(0, mm_r v0), (1, mm_i v1)] [] :=
  mm_w_W (body := fun x => f_X5_forgetToday_2 x.1 v0 x.2) (Wh := h_X5_forgetToday_2 g v0) (ok := (fun z => mm_q g 0 0 none z)) (x := (M, v1)) (fun x r hb ho => w_X5_forgetToday_2 C hb ho) hf ko
noncomputable def f_X5_forgetToday_0 (M : mm_M) (v0 : Option Nat) : Option (mm_M) :=
  f_X5_forgetToday_2w M v0 0
set_option maxRecDepth 20000 in
theorem w_X5_forgetToday_0 {g : mm_c} (C : mm_ok g cX5_forgetToday "LessonCards$Hand" none "forgetToday" 2 1 20 0 0) {M : mm_M} {v0 : Option Nat} {res : mm_M} (hf : f_X5_forgetToday_0 M v0 = some res) (ko : (fun z => mm_q g 0 0 none z) res) : mm_X g 0 0 M 0 [(0, mm_r v0)] [] := by
  unfold f_X5_forgetToday_0 at hf
  refine xr_iconst 1 C (v := 0) dX5_forgetToday_0 (by decide) rfl ?_
  refine xr_istore_n 2 C dX5_forgetToday_1 rfl (by decide) rfl [(1, mm_i 0), (0, mm_r v0)] rfl ?_
  refine xr_sub [1, 0] (lv2 := [(0, mm_r v0), (1, mm_i 0)]) rfl ?_
  exact l_X5_forgetToday_2 C hf ko
noncomputable def f_X5_forgetToday (M : mm_M) (v0 : Option Nat) : Option (mm_M) := f_X5_forgetToday_0 M v0
theorem c_X5_forgetToday (l : Launch) (G : va_G) (cy : Nat → ClassId) {M : mm_M} {v0 : Option Nat} {M1 : mm_M} (hf : f_X5_forgetToday M v0 = some M1) : mm_Met l yX5_forgetToday cX5_forgetToday 2 none 1 20 0 0 G cy [mm_r v0] M none M1 :=
  mm_enter (by decide) (Nat.le_of_ble_eq_true rfl) (fun p e R s m args below meth c Q C hq => xr_sub [0] (lv2 := [(0, mm_r v0)]) rfl (w_X5_forgetToday_0 C hf hq))
noncomputable def f_X8_isLike_60 (M : mm_M) (s0 : Int32) : Option (Int32) :=
  mm_gd (s0 = 0 ∨ s0 = 1) <|
  some s0
set_option maxRecDepth 20000 in
theorem w_X8_isLike_60 {g : mm_c} (C : mm_ok g cX8_isLike "LessonCards$Memory" (some .boolean) "isLike" 2 0 0 0 0) {M : mm_M} {s0 : Int32} {res : Int32} (hf : f_X8_isLike_60 M s0 = some res) (ko : (fun z => mm_q g 0 0 (some (mm_i z)) M) res) : mm_X g 0 0 M 60 [] [mm_i s0] := by
  unfold f_X8_isLike_60 at hf
  obtain ⟨hz, hf⟩ := mm_gd_e hf
  obtain rfl := Option.some.inj hf
  exact xr_zret C hz ko ⟨(Nat.le_of_ble_eq_true rfl), (Nat.le_of_ble_eq_true rfl)⟩ dX8_isLike_60
noncomputable def f_X8_isLike_55 (M : mm_M) : Option (Int32) :=
  f_X8_isLike_60 M 1
set_option maxRecDepth 20000 in
theorem w_X8_isLike_55 {g : mm_c} (C : mm_ok g cX8_isLike "LessonCards$Memory" (some .boolean) "isLike" 2 0 0 0 0) {M : mm_M} {res : Int32} (hf : f_X8_isLike_55 M = some res) (ko : (fun z => mm_q g 0 0 (some (mm_i z)) M) res) : mm_X g 0 0 M 55 [] [] := by
  unfold f_X8_isLike_55 at hf
  refine xr_iconst 56 C (v := 1) dX8_isLike_55 (by decide) rfl ?_
  refine xr_goto 60 C dX8_isLike_56 (by decide) ?_
  exact w_X8_isLike_60 C hf ko
noncomputable def f_X8_isLike_59 (M : mm_M) : Option (Int32) :=
  f_X8_isLike_60 M 0
set_option maxRecDepth 20000 in
theorem w_X8_isLike_59 {g : mm_c} (C : mm_ok g cX8_isLike "LessonCards$Memory" (some .boolean) "isLike" 2 0 0 0 0) {M : mm_M} {res : Int32} (hf : f_X8_isLike_59 M = some res) (ko : (fun z => mm_q g 0 0 (some (mm_i z)) M) res) : mm_X g 0 0 M 59 [] [] := by
  unfold f_X8_isLike_59 at hf
  refine xr_iconst 60 C (v := 0) dX8_isLike_59 (by decide) rfl ?_
  exact w_X8_isLike_60 C hf ko
noncomputable def f_X8_isLike_44 (M : mm_M) (v0 : Option Nat) (v1 : Option Nat) : Option (Int32) :=
  (mm_fI M v0 9 4).bind fun x45 =>
  (mm_fI M v1 9 4).bind fun x49 =>
  if x45 = x49 then f_X8_isLike_55 M else f_X8_isLike_59 M
set_option maxRecDepth 20000 in
theorem w_X8_isLike_44 {g : mm_c} (C : mm_ok g cX8_isLike "LessonCards$Memory" (some .boolean) "isLike" 2 0 0 0 0) {M : mm_M} {v0 : Option Nat} {v1 : Option Nat} {res : Int32} (hf : f_X8_isLike_44 M v0 v1 = some res) (ko : (fun z => mm_q g 0 0 (some (mm_i z)) M) res) : mm_X g 0 0 M 44 [(0, mm_r v0), (1, mm_r v1)] [] := by
  unfold f_X8_isLike_44 at hf
  refine xr_aload_n 45 0 C dX8_isLike_44 rfl rfl rfl ?_
  obtain ⟨x45, h45, hf⟩ := mm_bd_e hf
  refine xr_getI 48 C cf_X8_29 rfl h45 dX8_isLike_45 rfl ?_
  refine xr_aload_n 49 1 C dX8_isLike_48 rfl rfl rfl ?_
  obtain ⟨x49, h49, hf⟩ := mm_bd_e hf
  refine xr_getI 52 C cf_X8_29 rfl h49 dX8_isLike_49 rfl ?_
  refine xr_icmp_ne 59 55 C dX8_isLike_52 (by decide) rfl (fun hc => ?_) (fun hc => ?_)
  · replace hf := (if_neg hc).symm.trans hf
    refine xr_sub [] (lv2 := []) rfl ?_
    exact w_X8_isLike_59 C hf ko
  · replace hf := (if_pos hc).symm.trans hf
    refine xr_sub [] (lv2 := []) rfl ?_
    exact w_X8_isLike_55 C hf ko
noncomputable def f_X8_isLike_33 (M : mm_M) (v0 : Option Nat) (v1 : Option Nat) : Option (Int32) :=
  (mm_fI M v0 9 3).bind fun x34 =>
  (mm_fI M v1 9 3).bind fun x38 =>
  if x34 = x38 then f_X8_isLike_44 M v0 v1 else f_X8_isLike_59 M
set_option maxRecDepth 20000 in
theorem w_X8_isLike_33 {g : mm_c} (C : mm_ok g cX8_isLike "LessonCards$Memory" (some .boolean) "isLike" 2 0 0 0 0) {M : mm_M} {v0 : Option Nat} {v1 : Option Nat} {res : Int32} (hf : f_X8_isLike_33 M v0 v1 = some res) (ko : (fun z => mm_q g 0 0 (some (mm_i z)) M) res) : mm_X g 0 0 M 33 [(0, mm_r v0), (1, mm_r v1)] [] := by
  unfold f_X8_isLike_33 at hf
  refine xr_aload_n 34 0 C dX8_isLike_33 rfl rfl rfl ?_
  obtain ⟨x34, h34, hf⟩ := mm_bd_e hf
  refine xr_getI 37 C cf_X8_15 rfl h34 dX8_isLike_34 rfl ?_
  refine xr_aload_n 38 1 C dX8_isLike_37 rfl rfl rfl ?_
  obtain ⟨x38, h38, hf⟩ := mm_bd_e hf
  refine xr_getI 41 C cf_X8_15 rfl h38 dX8_isLike_38 rfl ?_
  refine xr_icmp_ne 59 44 C dX8_isLike_41 (by decide) rfl (fun hc => ?_) (fun hc => ?_)
  · replace hf := (if_neg hc).symm.trans hf
    refine xr_sub [] (lv2 := []) rfl ?_
    exact w_X8_isLike_59 C hf ko
  · replace hf := (if_pos hc).symm.trans hf
    exact w_X8_isLike_44 C hf ko
noncomputable def f_X8_isLike_22 (M : mm_M) (v0 : Option Nat) (v1 : Option Nat) : Option (Int32) :=
  (mm_fI M v0 9 2).bind fun x23 =>
  (mm_fI M v1 9 2).bind fun x27 =>
  if x23 = x27 then f_X8_isLike_33 M v0 v1 else f_X8_isLike_59 M
set_option maxRecDepth 20000 in
theorem w_X8_isLike_22 {g : mm_c} (C : mm_ok g cX8_isLike "LessonCards$Memory" (some .boolean) "isLike" 2 0 0 0 0) {M : mm_M} {v0 : Option Nat} {v1 : Option Nat} {res : Int32} (hf : f_X8_isLike_22 M v0 v1 = some res) (ko : (fun z => mm_q g 0 0 (some (mm_i z)) M) res) : mm_X g 0 0 M 22 [(0, mm_r v0), (1, mm_r v1)] [] := by
  unfold f_X8_isLike_22 at hf
  refine xr_aload_n 23 0 C dX8_isLike_22 rfl rfl rfl ?_
  obtain ⟨x23, h23, hf⟩ := mm_bd_e hf
  refine xr_getI 26 C cf_X8_26 rfl h23 dX8_isLike_23 rfl ?_
  refine xr_aload_n 27 1 C dX8_isLike_26 rfl rfl rfl ?_
  obtain ⟨x27, h27, hf⟩ := mm_bd_e hf
  refine xr_getI 30 C cf_X8_26 rfl h27 dX8_isLike_27 rfl ?_
  refine xr_icmp_ne 59 33 C dX8_isLike_30 (by decide) rfl (fun hc => ?_) (fun hc => ?_)
  · replace hf := (if_neg hc).symm.trans hf
    refine xr_sub [] (lv2 := []) rfl ?_
    exact w_X8_isLike_59 C hf ko
  · replace hf := (if_pos hc).symm.trans hf
    exact w_X8_isLike_33 C hf ko
noncomputable def f_X8_isLike_11 (M : mm_M) (v0 : Option Nat) (v1 : Option Nat) : Option (Int32) :=
  (mm_fI M v0 9 1).bind fun x12 =>
  (mm_fI M v1 9 1).bind fun x16 =>
  if x12 = x16 then f_X8_isLike_22 M v0 v1 else f_X8_isLike_59 M
set_option maxRecDepth 20000 in
theorem w_X8_isLike_11 {g : mm_c} (C : mm_ok g cX8_isLike "LessonCards$Memory" (some .boolean) "isLike" 2 0 0 0 0) {M : mm_M} {v0 : Option Nat} {v1 : Option Nat} {res : Int32} (hf : f_X8_isLike_11 M v0 v1 = some res) (ko : (fun z => mm_q g 0 0 (some (mm_i z)) M) res) : mm_X g 0 0 M 11 [(0, mm_r v0), (1, mm_r v1)] [] := by
  unfold f_X8_isLike_11 at hf
  refine xr_aload_n 12 0 C dX8_isLike_11 rfl rfl rfl ?_
  obtain ⟨x12, h12, hf⟩ := mm_bd_e hf
  refine xr_getI 15 C cf_X8_9 rfl h12 dX8_isLike_12 rfl ?_
  refine xr_aload_n 16 1 C dX8_isLike_15 rfl rfl rfl ?_
  obtain ⟨x16, h16, hf⟩ := mm_bd_e hf
  refine xr_getI 19 C cf_X8_9 rfl h16 dX8_isLike_16 rfl ?_
  refine xr_icmp_ne 59 22 C dX8_isLike_19 (by decide) rfl (fun hc => ?_) (fun hc => ?_)
  · replace hf := (if_neg hc).symm.trans hf
    refine xr_sub [] (lv2 := []) rfl ?_
    exact w_X8_isLike_59 C hf ko
  · replace hf := (if_pos hc).symm.trans hf
    exact w_X8_isLike_22 C hf ko
noncomputable def f_X8_isLike_0 (M : mm_M) (v0 : Option Nat) (v1 : Option Nat) : Option (Int32) :=
  (mm_fI M v0 9 0).bind fun x1 =>
  (mm_fI M v1 9 0).bind fun x5 =>
  if x1 = x5 then f_X8_isLike_11 M v0 v1 else f_X8_isLike_59 M
set_option maxRecDepth 20000 in
theorem w_X8_isLike_0 {g : mm_c} (C : mm_ok g cX8_isLike "LessonCards$Memory" (some .boolean) "isLike" 2 0 0 0 0) {M : mm_M} {v0 : Option Nat} {v1 : Option Nat} {res : Int32} (hf : f_X8_isLike_0 M v0 v1 = some res) (ko : (fun z => mm_q g 0 0 (some (mm_i z)) M) res) : mm_X g 0 0 M 0 [(0, mm_r v0), (1, mm_r v1)] [] := by
  unfold f_X8_isLike_0 at hf
  refine xr_aload_n 1 0 C dX8_isLike_0 rfl rfl rfl ?_
  obtain ⟨x1, h1, hf⟩ := mm_bd_e hf
  refine xr_getI 4 C cf_X8_23 rfl h1 dX8_isLike_1 rfl ?_
  refine xr_aload_n 5 1 C dX8_isLike_4 rfl rfl rfl ?_
  obtain ⟨x5, h5, hf⟩ := mm_bd_e hf
  refine xr_getI 8 C cf_X8_23 rfl h5 dX8_isLike_5 rfl ?_
  refine xr_icmp_ne 59 11 C dX8_isLike_8 (by decide) rfl (fun hc => ?_) (fun hc => ?_)
  · replace hf := (if_neg hc).symm.trans hf
    refine xr_sub [] (lv2 := []) rfl ?_
    exact w_X8_isLike_59 C hf ko
  · replace hf := (if_pos hc).symm.trans hf
    exact w_X8_isLike_11 C hf ko
noncomputable def f_X8_isLike (M : mm_M) (v0 : Option Nat) (v1 : Option Nat) : Option (Int32) := f_X8_isLike_0 M v0 v1
theorem c_X8_isLike (l : Launch) (G : va_G) (cy : Nat → ClassId) {M : mm_M} {v0 : Option Nat} {v1 : Option Nat} {r : Int32} (hf : f_X8_isLike M v0 v1 = some r) : mm_Met l yX8_isLike cX8_isLike 2 (some .boolean) 0 0 0 0 G cy [mm_r v0, mm_r v1] M (some (mm_i r)) M :=
  mm_enter (by decide) (Nat.le_of_ble_eq_true rfl) (fun p e R s m args below meth c Q C hq => xr_sub [0, 1] (lv2 := [(0, mm_r v0), (1, mm_r v1)]) rfl (w_X8_isLike_0 C hf hq))
def h_X5_isLike_2 (g : mm_c) (M : mm_M) (v0 : Option Nat) (v1 : Option Nat) : Int32 → Prop := fun x => mm_X g 0 0 M 2 [(0, mm_r v0), (1, mm_r v1), (2, mm_i x)] []
noncomputable def f_X5_isLike_34 (M : mm_M) : Option (Int32) :=
  some 0
set_option maxRecDepth 20000 in
theorem w_X5_isLike_34 {g : mm_c} (C : mm_ok g cX5_isLike "LessonCards$Hand" (some .boolean) "isLike" 4 1 21 0 0) {M : mm_M} {res : Int32} (hf : f_X5_isLike_34 M = some res) (ko : (fun z => mm_q g 0 0 (some (mm_i z)) M) res) : mm_X g 0 0 M 34 [] [] := by
  unfold f_X5_isLike_34 at hf
  refine xr_iconst 35 C (v := 0) dX5_isLike_34 (by decide) rfl ?_
  obtain rfl := Option.some.inj hf
  exact xr_zret C (by decide) ko ⟨(Nat.le_of_ble_eq_true rfl), (Nat.le_of_ble_eq_true rfl)⟩ dX5_isLike_35
noncomputable def f_X5_isLike_36 (M : mm_M) (v0 : Option Nat) (v1 : Option Nat) (v2 : Int32) : Option (Int32 ⊕ (Int32)) :=
  some (.inl (v2 + 1))
set_option maxRecDepth 20000 in
theorem w_X5_isLike_36 {g : mm_c} (C : mm_ok g cX5_isLike "LessonCards$Hand" (some .boolean) "isLike" 4 1 21 0 0) {M : mm_M} {v0 : Option Nat} {v1 : Option Nat} {v2 : Int32} {res : Int32 ⊕ (Int32)} (hf : f_X5_isLike_36 M v0 v1 v2 = some res) (ko : (mm_o (h_X5_isLike_2 g M v0 v1) (fun z => mm_q g 0 0 (some (mm_i z)) M)) res) : mm_X g 0 0 M 36 [(0, mm_r v0), (1, mm_r v1), (2, mm_i v2)] [] := by
  unfold f_X5_isLike_36 at hf
  refine xr_iinc 39 2 C dX5_isLike_36 rfl (by decide) (v := 1) (by decide) rfl [(2, mm_i (v2 + 1)), (0, mm_r v0), (1, mm_r v1)] rfl ?_
  refine xr_goto 2 C dX5_isLike_39 (by decide) ?_
  refine xr_sub [1, 2, 0] (lv2 := [(0, mm_r v0), (1, mm_r v1), (2, mm_i (v2 + 1))]) rfl ?_
  obtain rfl := Option.some.inj hf
  exact ko
noncomputable def f_X5_isLike_21 (M : mm_M) (v0 : Option Nat) (v1 : Option Nat) (v2 : Int32) (v3 : Option Nat) : Option (Int32 ⊕ (Int32)) :=
  (mm_fR M v0 6 0).bind fun x22 =>
  (mm_aR M x22 16 v2).bind fun x26 =>
  (mm_rc M x26 9).bind fun u28 =>
  (f_X8_isLike M x26 v3).bind fun x28 =>
  if x28 = 0 then mm_mp (f_X5_isLike_34 M) else f_X5_isLike_36 M v0 v1 v2
set_option maxRecDepth 20000 in
theorem w_X5_isLike_21 {g : mm_c} (C : mm_ok g cX5_isLike "LessonCards$Hand" (some .boolean) "isLike" 4 1 21 0 0) {M : mm_M} {v0 : Option Nat} {v1 : Option Nat} {v2 : Int32} {v3 : Option Nat} {res : Int32 ⊕ (Int32)} (hf : f_X5_isLike_21 M v0 v1 v2 v3 = some res) (ko : (mm_o (h_X5_isLike_2 g M v0 v1) (fun z => mm_q g 0 0 (some (mm_i z)) M)) res) : mm_X g 0 0 M 21 [(0, mm_r v0), (1, mm_r v1), (2, mm_i v2), (3, mm_r v3)] [] := by
  unfold f_X5_isLike_21 at hf
  refine xr_aload_n 22 0 C dX5_isLike_21 rfl rfl rfl ?_
  obtain ⟨x22, h22, hf⟩ := mm_bd_e hf
  refine xr_getR 25 C cf_X5_11 rfl h22 dX5_isLike_22 rfl ?_
  refine xr_iload_n 26 2 C dX5_isLike_25 rfl rfl rfl ?_
  obtain ⟨x26, h26, hf⟩ := mm_bd_e hf
  refine xr_aldR 27 C 16 (by decide) h26 dX5_isLike_26 rfl ?_
  refine xr_aload_n 28 3 C dX5_isLike_27 rfl rfl rfl ?_
  obtain ⟨u28, g28, hf⟩ := mm_bd_e hf
  obtain ⟨x28, h28, hf⟩ := mm_bd_e hf
  refine xr_callV 31 C [mm_r v3] cm_X5_36 (fun l G cy => c_X8_isLike l G cy h28) g28 rfl rfl ⟨⟨Nat.le_of_ble_eq_true rfl, Nat.le_of_ble_eq_true rfl⟩, (Nat.le_of_ble_eq_true rfl), (Nat.le_of_ble_eq_true rfl)⟩ (Nat.le_of_ble_eq_true rfl) dX5_isLike_28 rfl ?_
  refine xr_if_ne 36 34 C dX5_isLike_31 (by decide) rfl (fun hc => ?_) (fun hc => ?_)
  · replace hf := (if_neg hc).symm.trans hf
    refine xr_sub [0, 1, 2] (lv2 := [(0, mm_r v0), (1, mm_r v1), (2, mm_i v2)]) rfl ?_
    exact w_X5_isLike_36 C hf ko
  · replace hf := (if_pos hc).symm.trans hf
    refine xr_sub [] (lv2 := []) rfl ?_
    obtain ⟨z, hf2, rfl⟩ := mm_mp_e hf
    clear hf
    have hf := hf2
    clear hf2
    exact w_X5_isLike_34 C hf ko
noncomputable def f_X5_isLike_11 (M : mm_M) (v0 : Option Nat) (v1 : Option Nat) (v2 : Int32) : Option (Int32 ⊕ (Int32)) :=
  (mm_rc M v1 6).bind fun u13 =>
  (f_X5_memoryAt M v1 v2).bind fun x13 =>
  if x13 = none then mm_mp (f_X5_isLike_34 M) else f_X5_isLike_21 M v0 v1 v2 x13
set_option maxRecDepth 20000 in
theorem w_X5_isLike_11 {g : mm_c} (C : mm_ok g cX5_isLike "LessonCards$Hand" (some .boolean) "isLike" 4 1 21 0 0) {M : mm_M} {v0 : Option Nat} {v1 : Option Nat} {v2 : Int32} {res : Int32 ⊕ (Int32)} (hf : f_X5_isLike_11 M v0 v1 v2 = some res) (ko : (mm_o (h_X5_isLike_2 g M v0 v1) (fun z => mm_q g 0 0 (some (mm_i z)) M)) res) : mm_X g 0 0 M 11 [(0, mm_r v0), (1, mm_r v1), (2, mm_i v2)] [] := by
  unfold f_X5_isLike_11 at hf
  refine xr_aload_n 12 1 C dX5_isLike_11 rfl rfl rfl ?_
  refine xr_iload_n 13 2 C dX5_isLike_12 rfl rfl rfl ?_
  obtain ⟨u13, g13, hf⟩ := mm_bd_e hf
  obtain ⟨x13, h13, hf⟩ := mm_bd_e hf
  refine xr_callV 16 C [mm_i v2] cm_X5_18 (fun l G cy => c_X5_memoryAt l G cy h13) g13 rfl rfl ⟨⟨Nat.le_of_ble_eq_true rfl, Nat.le_of_ble_eq_true rfl⟩, (Nat.le_of_ble_eq_true rfl), (Nat.le_of_ble_eq_true rfl)⟩ (Nat.le_of_ble_eq_true rfl) dX5_isLike_13 rfl ?_
  refine xr_astore_n 17 C dX5_isLike_16 rfl (by decide) rfl [(3, mm_r x13), (0, mm_r v0), (1, mm_r v1), (2, mm_i v2)] rfl ?_
  refine xr_aload_n 18 0 C dX5_isLike_17 rfl rfl rfl ?_
  refine xr_ifnull 34 21 C dX5_isLike_18 (by decide) rfl (fun hc => ?_) (fun hc => ?_)
  · replace hf := (if_pos hc).symm.trans hf
    refine xr_sub [] (lv2 := []) rfl ?_
    obtain ⟨z, hf2, rfl⟩ := mm_mp_e hf
    clear hf
    have hf := hf2
    clear hf2
    exact w_X5_isLike_34 C hf ko
  · replace hf := (if_neg hc).symm.trans hf
    refine xr_sub [1, 2, 3, 0] (lv2 := [(0, mm_r v0), (1, mm_r v1), (2, mm_i v2), (3, mm_r x13)]) rfl ?_
    exact w_X5_isLike_21 C hf ko
noncomputable def f_X5_isLike_42 (M : mm_M) : Option (Int32) :=
  some 1
set_option maxRecDepth 20000 in
theorem w_X5_isLike_42 {g : mm_c} (C : mm_ok g cX5_isLike "LessonCards$Hand" (some .boolean) "isLike" 4 1 21 0 0) {M : mm_M} {res : Int32} (hf : f_X5_isLike_42 M = some res) (ko : (fun z => mm_q g 0 0 (some (mm_i z)) M) res) : mm_X g 0 0 M 42 [] [] := by
  unfold f_X5_isLike_42 at hf
  refine xr_iconst 43 C (v := 1) dX5_isLike_42 (by decide) rfl ?_
  obtain rfl := Option.some.inj hf
  exact xr_zret C (by decide) ko ⟨(Nat.le_of_ble_eq_true rfl), (Nat.le_of_ble_eq_true rfl)⟩ dX5_isLike_43
noncomputable def f_X5_isLike_2 (M : mm_M) (v0 : Option Nat) (v1 : Option Nat) (v2 : Int32) : Option (Int32 ⊕ (Int32)) :=
  (mm_fR M v0 6 0).bind fun x4 =>
  (mm_ln M x4).bind fun x7 =>
  if x7 ≤ v2 then mm_mp (f_X5_isLike_42 M) else f_X5_isLike_11 M v0 v1 v2
set_option maxRecDepth 20000 in
theorem w_X5_isLike_2 {g : mm_c} (C : mm_ok g cX5_isLike "LessonCards$Hand" (some .boolean) "isLike" 4 1 21 0 0) {M : mm_M} {v0 : Option Nat} {v1 : Option Nat} {v2 : Int32} {res : Int32 ⊕ (Int32)} (hf : f_X5_isLike_2 M v0 v1 v2 = some res) (ko : (mm_o (h_X5_isLike_2 g M v0 v1) (fun z => mm_q g 0 0 (some (mm_i z)) M)) res) : mm_X g 0 0 M 2 [(0, mm_r v0), (1, mm_r v1), (2, mm_i v2)] [] := by
  unfold f_X5_isLike_2 at hf
  refine xr_iload_n 3 2 C dX5_isLike_2 rfl rfl rfl ?_
  refine xr_aload_n 4 0 C dX5_isLike_3 rfl rfl rfl ?_
  obtain ⟨x4, h4, hf⟩ := mm_bd_e hf
  refine xr_getR 7 C cf_X5_11 rfl h4 dX5_isLike_4 rfl ?_
  obtain ⟨x7, h7, hf⟩ := mm_bd_e hf
  refine xr_alen 8 C h7 dX5_isLike_7 rfl ?_
  refine xr_icmp_ge 42 11 C dX5_isLike_8 (by decide) rfl (fun hc => ?_) (fun hc => ?_)
  · replace hf := (if_pos hc).symm.trans hf
    refine xr_sub [] (lv2 := []) rfl ?_
    obtain ⟨z, hf2, rfl⟩ := mm_mp_e hf
    clear hf
    have hf := hf2
    clear hf2
    exact w_X5_isLike_42 C hf ko
  · replace hf := (if_neg hc).symm.trans hf
    exact w_X5_isLike_11 C hf ko
noncomputable def f_X5_isLike_2w (M : mm_M) (v0 : Option Nat) (v1 : Option Nat) (v2 : Int32) : Option (Int32) := mm_w (fun x => f_X5_isLike_2 M v0 v1 x) v2
theorem l_X5_isLike_2 {g : mm_c} (C : mm_ok g cX5_isLike "LessonCards$Hand" (some .boolean) "isLike" 4 1 21 0 0) {M : mm_M} {v0 : Option Nat} {v1 : Option Nat} {v2 : Int32} {res : Int32} (hf : f_X5_isLike_2w M v0 v1 v2 = some res) (ko : (fun z => mm_q g 0 0 (some (mm_i z)) M) res) : mm_X g 0 0 M 2 [(0, mm_r v0), (1, mm_r v1), (2, mm_i v2)] [] :=
  mm_w_W (body := fun x => f_X5_isLike_2 M v0 v1 x) (Wh := h_X5_isLike_2 g M v0 v1) (ok := (fun z => mm_q g 0 0 (some (mm_i z)) M)) (x := v2) (fun x r hb ho => w_X5_isLike_2 C hb ho) hf ko
noncomputable def f_X5_isLike_0 (M : mm_M) (v0 : Option Nat) (v1 : Option Nat) : Option (Int32) :=
  f_X5_isLike_2w M v0 v1 0
set_option maxRecDepth 20000 in
theorem w_X5_isLike_0 {g : mm_c} (C : mm_ok g cX5_isLike "LessonCards$Hand" (some .boolean) "isLike" 4 1 21 0 0) {M : mm_M} {v0 : Option Nat} {v1 : Option Nat} {res : Int32} (hf : f_X5_isLike_0 M v0 v1 = some res) (ko : (fun z => mm_q g 0 0 (some (mm_i z)) M) res) : mm_X g 0 0 M 0 [(0, mm_r v0), (1, mm_r v1)] [] := by
  unfold f_X5_isLike_0 at hf
  refine xr_iconst 1 C (v := 0) dX5_isLike_0 (by decide) rfl ?_
  refine xr_istore_n 2 C dX5_isLike_1 rfl (by decide) rfl [(2, mm_i 0), (0, mm_r v0), (1, mm_r v1)] rfl ?_
  refine xr_sub [1, 2, 0] (lv2 := [(0, mm_r v0), (1, mm_r v1), (2, mm_i 0)]) rfl ?_
  exact l_X5_isLike_2 C hf ko
noncomputable def f_X5_isLike (M : mm_M) (v0 : Option Nat) (v1 : Option Nat) : Option (Int32) := f_X5_isLike_0 M v0 v1
theorem c_X5_isLike (l : Launch) (G : va_G) (cy : Nat → ClassId) {M : mm_M} {v0 : Option Nat} {v1 : Option Nat} {r : Int32} (hf : f_X5_isLike M v0 v1 = some r) : mm_Met l yX5_isLike cX5_isLike 4 (some .boolean) 1 21 0 0 G cy [mm_r v0, mm_r v1] M (some (mm_i r)) M :=
  mm_enter (by decide) (Nat.le_of_ble_eq_true rfl) (fun p e R s m args below meth c Q C hq => xr_sub [0, 1] (lv2 := [(0, mm_r v0), (1, mm_r v1)]) rfl (w_X5_isLike_0 C hf hq))
noncomputable def f_X8_chanceOn_30 (M : mm_M) (s0 : Int32) : Option (Int32) :=
  some s0
set_option maxRecDepth 20000 in
theorem w_X8_chanceOn_30 {g : mm_c} (C : mm_ok g cX8_chanceOn "LessonCards$Memory" (some .int) "chanceOn" 3 1 21 0 0) {M : mm_M} {s0 : Int32} {res : Int32} (hf : f_X8_chanceOn_30 M s0 = some res) (ko : (fun z => mm_q g 0 0 (some (mm_i z)) M) res) : mm_X g 0 0 M 30 [] [mm_i s0] := by
  unfold f_X8_chanceOn_30 at hf
  obtain rfl := Option.some.inj hf
  exact xr_iret C ko ⟨(Nat.le_of_ble_eq_true rfl), (Nat.le_of_ble_eq_true rfl)⟩ dX8_chanceOn_30
noncomputable def f_X8_chanceOn_7 (M : mm_M) (v0 : Option Nat) (v1 : Int32) (v2 : Option Nat) : Option (Int32) :=
  (mm_fI M v0 9 3).bind fun x13 =>
  (mm_fI M v0 9 0).bind fun x19 =>
  (mm_dI (16000 * (v1 - x13)) x19).bind fun x22 =>
  (mm_rc M v2 2).bind fun u23 =>
  (f_X1_chanceAt M v2 x22).bind fun x23 =>
  f_X8_chanceOn_30 M x23
set_option maxRecDepth 20000 in
theorem w_X8_chanceOn_7 {g : mm_c} (C : mm_ok g cX8_chanceOn "LessonCards$Memory" (some .int) "chanceOn" 3 1 21 0 0) {M : mm_M} {v0 : Option Nat} {v1 : Int32} {v2 : Option Nat} {res : Int32} (hf : f_X8_chanceOn_7 M v0 v1 v2 = some res) (ko : (fun z => mm_q g 0 0 (some (mm_i z)) M) res) : mm_X g 0 0 M 7 [(0, mm_r v0), (1, mm_i v1), (2, mm_r v2)] [] := by
  unfold f_X8_chanceOn_7 at hf
  refine xr_aload_n 8 2 C dX8_chanceOn_7 rfl rfl rfl ?_
  refine xr_sipush 11 C (v := 16000) dX8_chanceOn_8 (by decide) rfl ?_
  refine xr_iload_n 12 1 C dX8_chanceOn_11 rfl rfl rfl ?_
  refine xr_aload_n 13 0 C dX8_chanceOn_12 rfl rfl rfl ?_
  obtain ⟨x13, h13, hf⟩ := mm_bd_e hf
  refine xr_getI 16 C cf_X8_15 rfl h13 dX8_chanceOn_13 rfl ?_
  refine xr_isub 17 C dX8_chanceOn_16 rfl ?_
  refine xr_imul 18 C dX8_chanceOn_17 rfl ?_
  refine xr_aload_n 19 0 C dX8_chanceOn_18 rfl rfl rfl ?_
  obtain ⟨x19, h19, hf⟩ := mm_bd_e hf
  refine xr_getI 22 C cf_X8_23 rfl h19 dX8_chanceOn_19 rfl ?_
  obtain ⟨x22, h22, hf⟩ := mm_bd_e hf
  refine xr_idivv 23 C h22 dX8_chanceOn_22 rfl ?_
  obtain ⟨u23, g23, hf⟩ := mm_bd_e hf
  obtain ⟨x23, h23, hf⟩ := mm_bd_e hf
  refine xr_callV 26 C [mm_i x22] cm_X8_39 (fun l G cy => c_X1_chanceAt l G cy h23) g23 rfl rfl ⟨⟨Nat.le_of_ble_eq_true rfl, Nat.le_of_ble_eq_true rfl⟩, (Nat.le_of_ble_eq_true rfl), (Nat.le_of_ble_eq_true rfl)⟩ (Nat.le_of_ble_eq_true rfl) dX8_chanceOn_23 rfl ?_
  refine xr_goto 30 C dX8_chanceOn_26 (by decide) ?_
  refine xr_sub [] (lv2 := []) rfl ?_
  exact w_X8_chanceOn_30 C hf ko
noncomputable def f_X8_chanceOn_29 (M : mm_M) : Option (Int32) :=
  f_X8_chanceOn_30 M 0
set_option maxRecDepth 20000 in
theorem w_X8_chanceOn_29 {g : mm_c} (C : mm_ok g cX8_chanceOn "LessonCards$Memory" (some .int) "chanceOn" 3 1 21 0 0) {M : mm_M} {res : Int32} (hf : f_X8_chanceOn_29 M = some res) (ko : (fun z => mm_q g 0 0 (some (mm_i z)) M) res) : mm_X g 0 0 M 29 [] [] := by
  unfold f_X8_chanceOn_29 at hf
  refine xr_iconst 30 C (v := 0) dX8_chanceOn_29 (by decide) rfl ?_
  exact w_X8_chanceOn_30 C hf ko
noncomputable def f_X8_chanceOn_0 (M : mm_M) (v0 : Option Nat) (v1 : Int32) (v2 : Option Nat) : Option (Int32) :=
  (mm_fI M v0 9 0).bind fun x1 =>
  if x1 ≤ 0 then f_X8_chanceOn_29 M else f_X8_chanceOn_7 M v0 v1 v2
set_option maxRecDepth 20000 in
theorem w_X8_chanceOn_0 {g : mm_c} (C : mm_ok g cX8_chanceOn "LessonCards$Memory" (some .int) "chanceOn" 3 1 21 0 0) {M : mm_M} {v0 : Option Nat} {v1 : Int32} {v2 : Option Nat} {res : Int32} (hf : f_X8_chanceOn_0 M v0 v1 v2 = some res) (ko : (fun z => mm_q g 0 0 (some (mm_i z)) M) res) : mm_X g 0 0 M 0 [(0, mm_r v0), (1, mm_i v1), (2, mm_r v2)] [] := by
  unfold f_X8_chanceOn_0 at hf
  refine xr_aload_n 1 0 C dX8_chanceOn_0 rfl rfl rfl ?_
  obtain ⟨x1, h1, hf⟩ := mm_bd_e hf
  refine xr_getI 4 C cf_X8_23 rfl h1 dX8_chanceOn_1 rfl ?_
  refine xr_if_le 29 7 C dX8_chanceOn_4 (by decide) rfl (fun hc => ?_) (fun hc => ?_)
  · replace hf := (if_pos hc).symm.trans hf
    refine xr_sub [] (lv2 := []) rfl ?_
    exact w_X8_chanceOn_29 C hf ko
  · replace hf := (if_neg hc).symm.trans hf
    exact w_X8_chanceOn_7 C hf ko
noncomputable def f_X8_chanceOn (M : mm_M) (v0 : Option Nat) (v1 : Int32) (v2 : Option Nat) : Option (Int32) := f_X8_chanceOn_0 M v0 v1 v2
theorem c_X8_chanceOn (l : Launch) (G : va_G) (cy : Nat → ClassId) {M : mm_M} {v0 : Option Nat} {v1 : Int32} {v2 : Option Nat} {r : Int32} (hf : f_X8_chanceOn M v0 v1 v2 = some r) : mm_Met l yX8_chanceOn cX8_chanceOn 3 (some .int) 1 21 0 0 G cy [mm_r v0, mm_i v1, mm_r v2] M (some (mm_i r)) M :=
  mm_enter (by decide) (Nat.le_of_ble_eq_true rfl) (fun p e R s m args below meth c Q C hq => xr_sub [0, 1, 2] (lv2 := [(0, mm_r v0), (1, mm_i v1), (2, mm_r v2)]) rfl (w_X8_chanceOn_0 C hf hq))
noncomputable def f_X8_isKnown_24 (M : mm_M) (s0 : Int32) : Option (Int32) :=
  mm_gd (s0 = 0 ∨ s0 = 1) <|
  some s0
set_option maxRecDepth 20000 in
theorem w_X8_isKnown_24 {g : mm_c} (C : mm_ok g cX8_isKnown "LessonCards$Memory" (some .boolean) "isKnown" 3 2 43 0 0) {M : mm_M} {s0 : Int32} {res : Int32} (hf : f_X8_isKnown_24 M s0 = some res) (ko : (fun z => mm_q g 0 0 (some (mm_i z)) M) res) : mm_X g 0 0 M 24 [] [mm_i s0] := by
  unfold f_X8_isKnown_24 at hf
  obtain ⟨hz, hf⟩ := mm_gd_e hf
  obtain rfl := Option.some.inj hf
  exact xr_zret C hz ko ⟨(Nat.le_of_ble_eq_true rfl), (Nat.le_of_ble_eq_true rfl)⟩ dX8_isKnown_24
noncomputable def f_X8_isKnown_19 (M : mm_M) : Option (Int32) :=
  f_X8_isKnown_24 M 1
set_option maxRecDepth 20000 in
theorem w_X8_isKnown_19 {g : mm_c} (C : mm_ok g cX8_isKnown "LessonCards$Memory" (some .boolean) "isKnown" 3 2 43 0 0) {M : mm_M} {res : Int32} (hf : f_X8_isKnown_19 M = some res) (ko : (fun z => mm_q g 0 0 (some (mm_i z)) M) res) : mm_X g 0 0 M 19 [] [] := by
  unfold f_X8_isKnown_19 at hf
  refine xr_iconst 20 C (v := 1) dX8_isKnown_19 (by decide) rfl ?_
  refine xr_goto 24 C dX8_isKnown_20 (by decide) ?_
  exact w_X8_isKnown_24 C hf ko
noncomputable def f_X8_isKnown_23 (M : mm_M) : Option (Int32) :=
  f_X8_isKnown_24 M 0
set_option maxRecDepth 20000 in
theorem w_X8_isKnown_23 {g : mm_c} (C : mm_ok g cX8_isKnown "LessonCards$Memory" (some .boolean) "isKnown" 3 2 43 0 0) {M : mm_M} {res : Int32} (hf : f_X8_isKnown_23 M = some res) (ko : (fun z => mm_q g 0 0 (some (mm_i z)) M) res) : mm_X g 0 0 M 23 [] [] := by
  unfold f_X8_isKnown_23 at hf
  refine xr_iconst 24 C (v := 0) dX8_isKnown_23 (by decide) rfl ?_
  exact w_X8_isKnown_24 C hf ko
noncomputable def f_X8_isKnown_7 (M : mm_M) (v0 : Option Nat) (v1 : Int32) (v2 : Option Nat) : Option (Int32) :=
  (mm_rc M v0 9).bind fun u10 =>
  (f_X8_chanceOn M v0 v1 v2).bind fun x10 =>
  if x10 < 900 then f_X8_isKnown_23 M else f_X8_isKnown_19 M
set_option maxRecDepth 20000 in
theorem w_X8_isKnown_7 {g : mm_c} (C : mm_ok g cX8_isKnown "LessonCards$Memory" (some .boolean) "isKnown" 3 2 43 0 0) {M : mm_M} {v0 : Option Nat} {v1 : Int32} {v2 : Option Nat} {res : Int32} (hf : f_X8_isKnown_7 M v0 v1 v2 = some res) (ko : (fun z => mm_q g 0 0 (some (mm_i z)) M) res) : mm_X g 0 0 M 7 [(0, mm_r v0), (1, mm_i v1), (2, mm_r v2)] [] := by
  unfold f_X8_isKnown_7 at hf
  refine xr_aload_n 8 0 C dX8_isKnown_7 rfl rfl rfl ?_
  refine xr_iload_n 9 1 C dX8_isKnown_8 rfl rfl rfl ?_
  refine xr_aload_n 10 2 C dX8_isKnown_9 rfl rfl rfl ?_
  obtain ⟨u10, g10, hf⟩ := mm_bd_e hf
  obtain ⟨x10, h10, hf⟩ := mm_bd_e hf
  refine xr_callV 13 C [mm_i v1, mm_r v2] cm_X8_49 (fun l G cy => c_X8_chanceOn l G cy h10) g10 rfl rfl ⟨⟨Nat.le_of_ble_eq_true rfl, Nat.le_of_ble_eq_true rfl⟩, (Nat.le_of_ble_eq_true rfl), (Nat.le_of_ble_eq_true rfl)⟩ (Nat.le_of_ble_eq_true rfl) dX8_isKnown_10 rfl ?_
  refine xr_sipush 16 C (v := 900) dX8_isKnown_13 (by decide) rfl ?_
  refine xr_icmp_lt 23 19 C dX8_isKnown_16 (by decide) rfl (fun hc => ?_) (fun hc => ?_)
  · replace hf := (if_pos hc).symm.trans hf
    refine xr_sub [] (lv2 := []) rfl ?_
    exact w_X8_isKnown_23 C hf ko
  · replace hf := (if_neg hc).symm.trans hf
    refine xr_sub [] (lv2 := []) rfl ?_
    exact w_X8_isKnown_19 C hf ko
noncomputable def f_X8_isKnown_0 (M : mm_M) (v0 : Option Nat) (v1 : Int32) (v2 : Option Nat) : Option (Int32) :=
  (mm_rc M v0 9).bind fun u1 =>
  (f_X8_isToCome M v0).bind fun x1 =>
  if x1 = 0 then f_X8_isKnown_23 M else f_X8_isKnown_7 M v0 v1 v2
set_option maxRecDepth 20000 in
theorem w_X8_isKnown_0 {g : mm_c} (C : mm_ok g cX8_isKnown "LessonCards$Memory" (some .boolean) "isKnown" 3 2 43 0 0) {M : mm_M} {v0 : Option Nat} {v1 : Int32} {v2 : Option Nat} {res : Int32} (hf : f_X8_isKnown_0 M v0 v1 v2 = some res) (ko : (fun z => mm_q g 0 0 (some (mm_i z)) M) res) : mm_X g 0 0 M 0 [(0, mm_r v0), (1, mm_i v1), (2, mm_r v2)] [] := by
  unfold f_X8_isKnown_0 at hf
  refine xr_aload_n 1 0 C dX8_isKnown_0 rfl rfl rfl ?_
  obtain ⟨u1, g1, hf⟩ := mm_bd_e hf
  obtain ⟨x1, h1, hf⟩ := mm_bd_e hf
  refine xr_callV 4 C [] cm_X8_45 (fun l G cy => c_X8_isToCome l G cy h1) g1 rfl rfl ⟨⟨Nat.le_of_ble_eq_true rfl, Nat.le_of_ble_eq_true rfl⟩, (Nat.le_of_ble_eq_true rfl), (Nat.le_of_ble_eq_true rfl)⟩ (Nat.le_of_ble_eq_true rfl) dX8_isKnown_1 rfl ?_
  refine xr_if_eq 23 7 C dX8_isKnown_4 (by decide) rfl (fun hc => ?_) (fun hc => ?_)
  · replace hf := (if_pos hc).symm.trans hf
    refine xr_sub [] (lv2 := []) rfl ?_
    exact w_X8_isKnown_23 C hf ko
  · replace hf := (if_neg hc).symm.trans hf
    exact w_X8_isKnown_7 C hf ko
noncomputable def f_X8_isKnown (M : mm_M) (v0 : Option Nat) (v1 : Int32) (v2 : Option Nat) : Option (Int32) := f_X8_isKnown_0 M v0 v1 v2
theorem c_X8_isKnown (l : Launch) (G : va_G) (cy : Nat → ClassId) {M : mm_M} {v0 : Option Nat} {v1 : Int32} {v2 : Option Nat} {r : Int32} (hf : f_X8_isKnown M v0 v1 v2 = some r) : mm_Met l yX8_isKnown cX8_isKnown 3 (some .boolean) 2 43 0 0 G cy [mm_r v0, mm_i v1, mm_r v2] M (some (mm_i r)) M :=
  mm_enter (by decide) (Nat.le_of_ble_eq_true rfl) (fun p e R s m args below meth c Q C hq => xr_sub [0, 1, 2] (lv2 := [(0, mm_r v0), (1, mm_i v1), (2, mm_r v2)]) rfl (w_X8_isKnown_0 C hf hq))
def h_X5_isKnown_2 (g : mm_c) (M : mm_M) (v0 : Option Nat) (v1 : Int32) (v2 : Option Nat) : Int32 → Prop := fun x => mm_X g 0 0 M 2 [(0, mm_r v0), (1, mm_i v1), (2, mm_r v2), (3, mm_i x)] []
noncomputable def f_X5_isKnown_25 (M : mm_M) : Option (Int32) :=
  some 0
set_option maxRecDepth 20000 in
theorem w_X5_isKnown_25 {g : mm_c} (C : mm_ok g cX5_isKnown "LessonCards$Hand" (some .boolean) "isKnown" 4 3 65 0 0) {M : mm_M} {res : Int32} (hf : f_X5_isKnown_25 M = some res) (ko : (fun z => mm_q g 0 0 (some (mm_i z)) M) res) : mm_X g 0 0 M 25 [] [] := by
  unfold f_X5_isKnown_25 at hf
  refine xr_iconst 26 C (v := 0) dX5_isKnown_25 (by decide) rfl ?_
  obtain rfl := Option.some.inj hf
  exact xr_zret C (by decide) ko ⟨(Nat.le_of_ble_eq_true rfl), (Nat.le_of_ble_eq_true rfl)⟩ dX5_isKnown_26
noncomputable def f_X5_isKnown_27 (M : mm_M) (v0 : Option Nat) (v1 : Int32) (v2 : Option Nat) (v3 : Int32) : Option (Int32 ⊕ (Int32)) :=
  some (.inl (v3 + 1))
set_option maxRecDepth 20000 in
theorem w_X5_isKnown_27 {g : mm_c} (C : mm_ok g cX5_isKnown "LessonCards$Hand" (some .boolean) "isKnown" 4 3 65 0 0) {M : mm_M} {v0 : Option Nat} {v1 : Int32} {v2 : Option Nat} {v3 : Int32} {res : Int32 ⊕ (Int32)} (hf : f_X5_isKnown_27 M v0 v1 v2 v3 = some res) (ko : (mm_o (h_X5_isKnown_2 g M v0 v1 v2) (fun z => mm_q g 0 0 (some (mm_i z)) M)) res) : mm_X g 0 0 M 27 [(0, mm_r v0), (1, mm_i v1), (2, mm_r v2), (3, mm_i v3)] [] := by
  unfold f_X5_isKnown_27 at hf
  refine xr_iinc 30 3 C dX5_isKnown_27 rfl (by decide) (v := 1) (by decide) rfl [(3, mm_i (v3 + 1)), (0, mm_r v0), (1, mm_i v1), (2, mm_r v2)] rfl ?_
  refine xr_goto 2 C dX5_isKnown_30 (by decide) ?_
  refine xr_sub [1, 2, 3, 0] (lv2 := [(0, mm_r v0), (1, mm_i v1), (2, mm_r v2), (3, mm_i (v3 + 1))]) rfl ?_
  obtain rfl := Option.some.inj hf
  exact ko
noncomputable def f_X5_isKnown_11 (M : mm_M) (v0 : Option Nat) (v1 : Int32) (v2 : Option Nat) (v3 : Int32) : Option (Int32 ⊕ (Int32)) :=
  (mm_fR M v0 6 0).bind fun x12 =>
  (mm_aR M x12 16 v3).bind fun x16 =>
  (mm_rc M x16 9).bind fun u19 =>
  (f_X8_isKnown M x16 v1 v2).bind fun x19 =>
  if x19 = 0 then mm_mp (f_X5_isKnown_25 M) else f_X5_isKnown_27 M v0 v1 v2 v3
set_option maxRecDepth 20000 in
theorem w_X5_isKnown_11 {g : mm_c} (C : mm_ok g cX5_isKnown "LessonCards$Hand" (some .boolean) "isKnown" 4 3 65 0 0) {M : mm_M} {v0 : Option Nat} {v1 : Int32} {v2 : Option Nat} {v3 : Int32} {res : Int32 ⊕ (Int32)} (hf : f_X5_isKnown_11 M v0 v1 v2 v3 = some res) (ko : (mm_o (h_X5_isKnown_2 g M v0 v1 v2) (fun z => mm_q g 0 0 (some (mm_i z)) M)) res) : mm_X g 0 0 M 11 [(0, mm_r v0), (1, mm_i v1), (2, mm_r v2), (3, mm_i v3)] [] := by
  unfold f_X5_isKnown_11 at hf
  refine xr_aload_n 12 0 C dX5_isKnown_11 rfl rfl rfl ?_
  obtain ⟨x12, h12, hf⟩ := mm_bd_e hf
  refine xr_getR 15 C cf_X5_11 rfl h12 dX5_isKnown_12 rfl ?_
  refine xr_iload_n 16 3 C dX5_isKnown_15 rfl rfl rfl ?_
  obtain ⟨x16, h16, hf⟩ := mm_bd_e hf
  refine xr_aldR 17 C 16 (by decide) h16 dX5_isKnown_16 rfl ?_
  refine xr_iload_n 18 1 C dX5_isKnown_17 rfl rfl rfl ?_
  refine xr_aload_n 19 2 C dX5_isKnown_18 rfl rfl rfl ?_
  obtain ⟨u19, g19, hf⟩ := mm_bd_e hf
  obtain ⟨x19, h19, hf⟩ := mm_bd_e hf
  refine xr_callV 22 C [mm_i v1, mm_r v2] cm_X5_40 (fun l G cy => c_X8_isKnown l G cy h19) g19 rfl rfl ⟨⟨Nat.le_of_ble_eq_true rfl, Nat.le_of_ble_eq_true rfl⟩, (Nat.le_of_ble_eq_true rfl), (Nat.le_of_ble_eq_true rfl)⟩ (Nat.le_of_ble_eq_true rfl) dX5_isKnown_19 rfl ?_
  refine xr_if_ne 27 25 C dX5_isKnown_22 (by decide) rfl (fun hc => ?_) (fun hc => ?_)
  · replace hf := (if_neg hc).symm.trans hf
    exact w_X5_isKnown_27 C hf ko
  · replace hf := (if_pos hc).symm.trans hf
    refine xr_sub [] (lv2 := []) rfl ?_
    obtain ⟨z, hf2, rfl⟩ := mm_mp_e hf
    clear hf
    have hf := hf2
    clear hf2
    exact w_X5_isKnown_25 C hf ko
noncomputable def f_X5_isKnown_33 (M : mm_M) : Option (Int32) :=
  some 1
set_option maxRecDepth 20000 in
theorem w_X5_isKnown_33 {g : mm_c} (C : mm_ok g cX5_isKnown "LessonCards$Hand" (some .boolean) "isKnown" 4 3 65 0 0) {M : mm_M} {res : Int32} (hf : f_X5_isKnown_33 M = some res) (ko : (fun z => mm_q g 0 0 (some (mm_i z)) M) res) : mm_X g 0 0 M 33 [] [] := by
  unfold f_X5_isKnown_33 at hf
  refine xr_iconst 34 C (v := 1) dX5_isKnown_33 (by decide) rfl ?_
  obtain rfl := Option.some.inj hf
  exact xr_zret C (by decide) ko ⟨(Nat.le_of_ble_eq_true rfl), (Nat.le_of_ble_eq_true rfl)⟩ dX5_isKnown_34
noncomputable def f_X5_isKnown_2 (M : mm_M) (v0 : Option Nat) (v1 : Int32) (v2 : Option Nat) (v3 : Int32) : Option (Int32 ⊕ (Int32)) :=
  (mm_fR M v0 6 0).bind fun x4 =>
  (mm_ln M x4).bind fun x7 =>
  if x7 ≤ v3 then mm_mp (f_X5_isKnown_33 M) else f_X5_isKnown_11 M v0 v1 v2 v3
set_option maxRecDepth 20000 in
theorem w_X5_isKnown_2 {g : mm_c} (C : mm_ok g cX5_isKnown "LessonCards$Hand" (some .boolean) "isKnown" 4 3 65 0 0) {M : mm_M} {v0 : Option Nat} {v1 : Int32} {v2 : Option Nat} {v3 : Int32} {res : Int32 ⊕ (Int32)} (hf : f_X5_isKnown_2 M v0 v1 v2 v3 = some res) (ko : (mm_o (h_X5_isKnown_2 g M v0 v1 v2) (fun z => mm_q g 0 0 (some (mm_i z)) M)) res) : mm_X g 0 0 M 2 [(0, mm_r v0), (1, mm_i v1), (2, mm_r v2), (3, mm_i v3)] [] := by
  unfold f_X5_isKnown_2 at hf
  refine xr_iload_n 3 3 C dX5_isKnown_2 rfl rfl rfl ?_
  refine xr_aload_n 4 0 C dX5_isKnown_3 rfl rfl rfl ?_
  obtain ⟨x4, h4, hf⟩ := mm_bd_e hf
  refine xr_getR 7 C cf_X5_11 rfl h4 dX5_isKnown_4 rfl ?_
  obtain ⟨x7, h7, hf⟩ := mm_bd_e hf
  refine xr_alen 8 C h7 dX5_isKnown_7 rfl ?_
  refine xr_icmp_ge 33 11 C dX5_isKnown_8 (by decide) rfl (fun hc => ?_) (fun hc => ?_)
  · replace hf := (if_pos hc).symm.trans hf
    refine xr_sub [] (lv2 := []) rfl ?_
    obtain ⟨z, hf2, rfl⟩ := mm_mp_e hf
    clear hf
    have hf := hf2
    clear hf2
    exact w_X5_isKnown_33 C hf ko
  · replace hf := (if_neg hc).symm.trans hf
    exact w_X5_isKnown_11 C hf ko
noncomputable def f_X5_isKnown_2w (M : mm_M) (v0 : Option Nat) (v1 : Int32) (v2 : Option Nat) (v3 : Int32) : Option (Int32) := mm_w (fun x => f_X5_isKnown_2 M v0 v1 v2 x) v3
theorem l_X5_isKnown_2 {g : mm_c} (C : mm_ok g cX5_isKnown "LessonCards$Hand" (some .boolean) "isKnown" 4 3 65 0 0) {M : mm_M} {v0 : Option Nat} {v1 : Int32} {v2 : Option Nat} {v3 : Int32} {res : Int32} (hf : f_X5_isKnown_2w M v0 v1 v2 v3 = some res) (ko : (fun z => mm_q g 0 0 (some (mm_i z)) M) res) : mm_X g 0 0 M 2 [(0, mm_r v0), (1, mm_i v1), (2, mm_r v2), (3, mm_i v3)] [] :=
  mm_w_W (body := fun x => f_X5_isKnown_2 M v0 v1 v2 x) (Wh := h_X5_isKnown_2 g M v0 v1 v2) (ok := (fun z => mm_q g 0 0 (some (mm_i z)) M)) (x := v3) (fun x r hb ho => w_X5_isKnown_2 C hb ho) hf ko
noncomputable def f_X5_isKnown_0 (M : mm_M) (v0 : Option Nat) (v1 : Int32) (v2 : Option Nat) : Option (Int32) :=
  f_X5_isKnown_2w M v0 v1 v2 0
set_option maxRecDepth 20000 in
theorem w_X5_isKnown_0 {g : mm_c} (C : mm_ok g cX5_isKnown "LessonCards$Hand" (some .boolean) "isKnown" 4 3 65 0 0) {M : mm_M} {v0 : Option Nat} {v1 : Int32} {v2 : Option Nat} {res : Int32} (hf : f_X5_isKnown_0 M v0 v1 v2 = some res) (ko : (fun z => mm_q g 0 0 (some (mm_i z)) M) res) : mm_X g 0 0 M 0 [(0, mm_r v0), (1, mm_i v1), (2, mm_r v2)] [] := by
  unfold f_X5_isKnown_0 at hf
  refine xr_iconst 1 C (v := 0) dX5_isKnown_0 (by decide) rfl ?_
  refine xr_istore_n 2 C dX5_isKnown_1 rfl (by decide) rfl [(3, mm_i 0), (0, mm_r v0), (1, mm_i v1), (2, mm_r v2)] rfl ?_
  refine xr_sub [1, 2, 3, 0] (lv2 := [(0, mm_r v0), (1, mm_i v1), (2, mm_r v2), (3, mm_i 0)]) rfl ?_
  exact l_X5_isKnown_2 C hf ko
noncomputable def f_X5_isKnown (M : mm_M) (v0 : Option Nat) (v1 : Int32) (v2 : Option Nat) : Option (Int32) := f_X5_isKnown_0 M v0 v1 v2
theorem c_X5_isKnown (l : Launch) (G : va_G) (cy : Nat → ClassId) {M : mm_M} {v0 : Option Nat} {v1 : Int32} {v2 : Option Nat} {r : Int32} (hf : f_X5_isKnown M v0 v1 v2 = some r) : mm_Met l yX5_isKnown cX5_isKnown 4 (some .boolean) 3 65 0 0 G cy [mm_r v0, mm_i v1, mm_r v2] M (some (mm_i r)) M :=
  mm_enter (by decide) (Nat.le_of_ble_eq_true rfl) (fun p e R s m args below meth c Q C hq => xr_sub [0, 1, 2] (lv2 := [(0, mm_r v0), (1, mm_i v1), (2, mm_r v2)]) rfl (w_X5_isKnown_0 C hf hq))
noncomputable def f_X8_isLeech_14 (M : mm_M) (s0 : Int32) : Option (Int32) :=
  mm_gd (s0 = 0 ∨ s0 = 1) <|
  some s0
set_option maxRecDepth 20000 in
theorem w_X8_isLeech_14 {g : mm_c} (C : mm_ok g cX8_isLeech "LessonCards$Memory" (some .boolean) "isLeech" 1 0 0 0 0) {M : mm_M} {s0 : Int32} {res : Int32} (hf : f_X8_isLeech_14 M s0 = some res) (ko : (fun z => mm_q g 0 0 (some (mm_i z)) M) res) : mm_X g 0 0 M 14 [] [mm_i s0] := by
  unfold f_X8_isLeech_14 at hf
  obtain ⟨hz, hf⟩ := mm_gd_e hf
  obtain rfl := Option.some.inj hf
  exact xr_zret C hz ko ⟨(Nat.le_of_ble_eq_true rfl), (Nat.le_of_ble_eq_true rfl)⟩ dX8_isLeech_14
noncomputable def f_X8_isLeech_9 (M : mm_M) : Option (Int32) :=
  f_X8_isLeech_14 M 1
set_option maxRecDepth 20000 in
theorem w_X8_isLeech_9 {g : mm_c} (C : mm_ok g cX8_isLeech "LessonCards$Memory" (some .boolean) "isLeech" 1 0 0 0 0) {M : mm_M} {res : Int32} (hf : f_X8_isLeech_9 M = some res) (ko : (fun z => mm_q g 0 0 (some (mm_i z)) M) res) : mm_X g 0 0 M 9 [] [] := by
  unfold f_X8_isLeech_9 at hf
  refine xr_iconst 10 C (v := 1) dX8_isLeech_9 (by decide) rfl ?_
  refine xr_goto 14 C dX8_isLeech_10 (by decide) ?_
  exact w_X8_isLeech_14 C hf ko
noncomputable def f_X8_isLeech_13 (M : mm_M) : Option (Int32) :=
  f_X8_isLeech_14 M 0
set_option maxRecDepth 20000 in
theorem w_X8_isLeech_13 {g : mm_c} (C : mm_ok g cX8_isLeech "LessonCards$Memory" (some .boolean) "isLeech" 1 0 0 0 0) {M : mm_M} {res : Int32} (hf : f_X8_isLeech_13 M = some res) (ko : (fun z => mm_q g 0 0 (some (mm_i z)) M) res) : mm_X g 0 0 M 13 [] [] := by
  unfold f_X8_isLeech_13 at hf
  refine xr_iconst 14 C (v := 0) dX8_isLeech_13 (by decide) rfl ?_
  exact w_X8_isLeech_14 C hf ko
noncomputable def f_X8_isLeech_0 (M : mm_M) (v0 : Option Nat) : Option (Int32) :=
  (mm_fI M v0 9 4).bind fun x1 =>
  if x1 < 8 then f_X8_isLeech_13 M else f_X8_isLeech_9 M
set_option maxRecDepth 20000 in
theorem w_X8_isLeech_0 {g : mm_c} (C : mm_ok g cX8_isLeech "LessonCards$Memory" (some .boolean) "isLeech" 1 0 0 0 0) {M : mm_M} {v0 : Option Nat} {res : Int32} (hf : f_X8_isLeech_0 M v0 = some res) (ko : (fun z => mm_q g 0 0 (some (mm_i z)) M) res) : mm_X g 0 0 M 0 [(0, mm_r v0)] [] := by
  unfold f_X8_isLeech_0 at hf
  refine xr_aload_n 1 0 C dX8_isLeech_0 rfl rfl rfl ?_
  obtain ⟨x1, h1, hf⟩ := mm_bd_e hf
  refine xr_getI 4 C cf_X8_29 rfl h1 dX8_isLeech_1 rfl ?_
  refine xr_bipush 6 C (v := 8) dX8_isLeech_4 (by decide) rfl ?_
  refine xr_icmp_lt 13 9 C dX8_isLeech_6 (by decide) rfl (fun hc => ?_) (fun hc => ?_)
  · replace hf := (if_pos hc).symm.trans hf
    refine xr_sub [] (lv2 := []) rfl ?_
    exact w_X8_isLeech_13 C hf ko
  · replace hf := (if_neg hc).symm.trans hf
    refine xr_sub [] (lv2 := []) rfl ?_
    exact w_X8_isLeech_9 C hf ko
noncomputable def f_X8_isLeech (M : mm_M) (v0 : Option Nat) : Option (Int32) := f_X8_isLeech_0 M v0
theorem c_X8_isLeech (l : Launch) (G : va_G) (cy : Nat → ClassId) {M : mm_M} {v0 : Option Nat} {r : Int32} (hf : f_X8_isLeech M v0 = some r) : mm_Met l yX8_isLeech cX8_isLeech 1 (some .boolean) 0 0 0 0 G cy [mm_r v0] M (some (mm_i r)) M :=
  mm_enter (by decide) (Nat.le_of_ble_eq_true rfl) (fun p e R s m args below meth c Q C hq => xr_sub [0] (lv2 := [(0, mm_r v0)]) rfl (w_X8_isLeech_0 C hf hq))
noncomputable def f_X8_isFresh_12 (M : mm_M) (s0 : Int32) : Option (Int32) :=
  mm_gd (s0 = 0 ∨ s0 = 1) <|
  some s0
set_option maxRecDepth 20000 in
theorem w_X8_isFresh_12 {g : mm_c} (C : mm_ok g cX8_isFresh "LessonCards$Memory" (some .boolean) "isFresh" 1 0 0 0 0) {M : mm_M} {s0 : Int32} {res : Int32} (hf : f_X8_isFresh_12 M s0 = some res) (ko : (fun z => mm_q g 0 0 (some (mm_i z)) M) res) : mm_X g 0 0 M 12 [] [mm_i s0] := by
  unfold f_X8_isFresh_12 at hf
  obtain ⟨hz, hf⟩ := mm_gd_e hf
  obtain rfl := Option.some.inj hf
  exact xr_zret C hz ko ⟨(Nat.le_of_ble_eq_true rfl), (Nat.le_of_ble_eq_true rfl)⟩ dX8_isFresh_12
noncomputable def f_X8_isFresh_7 (M : mm_M) : Option (Int32) :=
  f_X8_isFresh_12 M 1
set_option maxRecDepth 20000 in
theorem w_X8_isFresh_7 {g : mm_c} (C : mm_ok g cX8_isFresh "LessonCards$Memory" (some .boolean) "isFresh" 1 0 0 0 0) {M : mm_M} {res : Int32} (hf : f_X8_isFresh_7 M = some res) (ko : (fun z => mm_q g 0 0 (some (mm_i z)) M) res) : mm_X g 0 0 M 7 [] [] := by
  unfold f_X8_isFresh_7 at hf
  refine xr_iconst 8 C (v := 1) dX8_isFresh_7 (by decide) rfl ?_
  refine xr_goto 12 C dX8_isFresh_8 (by decide) ?_
  exact w_X8_isFresh_12 C hf ko
noncomputable def f_X8_isFresh_11 (M : mm_M) : Option (Int32) :=
  f_X8_isFresh_12 M 0
set_option maxRecDepth 20000 in
theorem w_X8_isFresh_11 {g : mm_c} (C : mm_ok g cX8_isFresh "LessonCards$Memory" (some .boolean) "isFresh" 1 0 0 0 0) {M : mm_M} {res : Int32} (hf : f_X8_isFresh_11 M = some res) (ko : (fun z => mm_q g 0 0 (some (mm_i z)) M) res) : mm_X g 0 0 M 11 [] [] := by
  unfold f_X8_isFresh_11 at hf
  refine xr_iconst 12 C (v := 0) dX8_isFresh_11 (by decide) rfl ?_
  exact w_X8_isFresh_12 C hf ko
noncomputable def f_X8_isFresh_0 (M : mm_M) (v0 : Option Nat) : Option (Int32) :=
  (mm_fI M v0 9 0).bind fun x1 =>
  if x1 = 0 then f_X8_isFresh_7 M else f_X8_isFresh_11 M
set_option maxRecDepth 20000 in
theorem w_X8_isFresh_0 {g : mm_c} (C : mm_ok g cX8_isFresh "LessonCards$Memory" (some .boolean) "isFresh" 1 0 0 0 0) {M : mm_M} {v0 : Option Nat} {res : Int32} (hf : f_X8_isFresh_0 M v0 = some res) (ko : (fun z => mm_q g 0 0 (some (mm_i z)) M) res) : mm_X g 0 0 M 0 [(0, mm_r v0)] [] := by
  unfold f_X8_isFresh_0 at hf
  refine xr_aload_n 1 0 C dX8_isFresh_0 rfl rfl rfl ?_
  obtain ⟨x1, h1, hf⟩ := mm_bd_e hf
  refine xr_getI 4 C cf_X8_23 rfl h1 dX8_isFresh_1 rfl ?_
  refine xr_if_ne 11 7 C dX8_isFresh_4 (by decide) rfl (fun hc => ?_) (fun hc => ?_)
  · replace hf := (if_neg hc).symm.trans hf
    refine xr_sub [] (lv2 := []) rfl ?_
    exact w_X8_isFresh_11 C hf ko
  · replace hf := (if_pos hc).symm.trans hf
    refine xr_sub [] (lv2 := []) rfl ?_
    exact w_X8_isFresh_7 C hf ko
noncomputable def f_X8_isFresh (M : mm_M) (v0 : Option Nat) : Option (Int32) := f_X8_isFresh_0 M v0
theorem c_X8_isFresh (l : Launch) (G : va_G) (cy : Nat → ClassId) {M : mm_M} {v0 : Option Nat} {r : Int32} (hf : f_X8_isFresh M v0 = some r) : mm_Met l yX8_isFresh cX8_isFresh 1 (some .boolean) 0 0 0 0 G cy [mm_r v0] M (some (mm_i r)) M :=
  mm_enter (by decide) (Nat.le_of_ble_eq_true rfl) (fun p e R s m args below meth c Q C hq => xr_sub [0] (lv2 := [(0, mm_r v0)]) rfl (w_X8_isFresh_0 C hf hq))
noncomputable def f_X8_isDue_24 (M : mm_M) (s0 : Int32) : Option (Int32) :=
  mm_gd (s0 = 0 ∨ s0 = 1) <|
  some s0
set_option maxRecDepth 20000 in
theorem w_X8_isDue_24 {g : mm_c} (C : mm_ok g cX8_isDue "LessonCards$Memory" (some .boolean) "isDue" 3 2 43 0 0) {M : mm_M} {s0 : Int32} {res : Int32} (hf : f_X8_isDue_24 M s0 = some res) (ko : (fun z => mm_q g 0 0 (some (mm_i z)) M) res) : mm_X g 0 0 M 24 [] [mm_i s0] := by
  unfold f_X8_isDue_24 at hf
  obtain ⟨hz, hf⟩ := mm_gd_e hf
  obtain rfl := Option.some.inj hf
  exact xr_zret C hz ko ⟨(Nat.le_of_ble_eq_true rfl), (Nat.le_of_ble_eq_true rfl)⟩ dX8_isDue_24
noncomputable def f_X8_isDue_19 (M : mm_M) : Option (Int32) :=
  f_X8_isDue_24 M 1
set_option maxRecDepth 20000 in
theorem w_X8_isDue_19 {g : mm_c} (C : mm_ok g cX8_isDue "LessonCards$Memory" (some .boolean) "isDue" 3 2 43 0 0) {M : mm_M} {res : Int32} (hf : f_X8_isDue_19 M = some res) (ko : (fun z => mm_q g 0 0 (some (mm_i z)) M) res) : mm_X g 0 0 M 19 [] [] := by
  unfold f_X8_isDue_19 at hf
  refine xr_iconst 20 C (v := 1) dX8_isDue_19 (by decide) rfl ?_
  refine xr_goto 24 C dX8_isDue_20 (by decide) ?_
  exact w_X8_isDue_24 C hf ko
noncomputable def f_X8_isDue_23 (M : mm_M) : Option (Int32) :=
  f_X8_isDue_24 M 0
set_option maxRecDepth 20000 in
theorem w_X8_isDue_23 {g : mm_c} (C : mm_ok g cX8_isDue "LessonCards$Memory" (some .boolean) "isDue" 3 2 43 0 0) {M : mm_M} {res : Int32} (hf : f_X8_isDue_23 M = some res) (ko : (fun z => mm_q g 0 0 (some (mm_i z)) M) res) : mm_X g 0 0 M 23 [] [] := by
  unfold f_X8_isDue_23 at hf
  refine xr_iconst 24 C (v := 0) dX8_isDue_23 (by decide) rfl ?_
  exact w_X8_isDue_24 C hf ko
noncomputable def f_X8_isDue_7 (M : mm_M) (v0 : Option Nat) (v1 : Int32) (v2 : Option Nat) : Option (Int32) :=
  (mm_rc M v0 9).bind fun u10 =>
  (f_X8_chanceOn M v0 v1 v2).bind fun x10 =>
  if 900 ≤ x10 then f_X8_isDue_23 M else f_X8_isDue_19 M
set_option maxRecDepth 20000 in
theorem w_X8_isDue_7 {g : mm_c} (C : mm_ok g cX8_isDue "LessonCards$Memory" (some .boolean) "isDue" 3 2 43 0 0) {M : mm_M} {v0 : Option Nat} {v1 : Int32} {v2 : Option Nat} {res : Int32} (hf : f_X8_isDue_7 M v0 v1 v2 = some res) (ko : (fun z => mm_q g 0 0 (some (mm_i z)) M) res) : mm_X g 0 0 M 7 [(0, mm_r v0), (1, mm_i v1), (2, mm_r v2)] [] := by
  unfold f_X8_isDue_7 at hf
  refine xr_aload_n 8 0 C dX8_isDue_7 rfl rfl rfl ?_
  refine xr_iload_n 9 1 C dX8_isDue_8 rfl rfl rfl ?_
  refine xr_aload_n 10 2 C dX8_isDue_9 rfl rfl rfl ?_
  obtain ⟨u10, g10, hf⟩ := mm_bd_e hf
  obtain ⟨x10, h10, hf⟩ := mm_bd_e hf
  refine xr_callV 13 C [mm_i v1, mm_r v2] cm_X8_49 (fun l G cy => c_X8_chanceOn l G cy h10) g10 rfl rfl ⟨⟨Nat.le_of_ble_eq_true rfl, Nat.le_of_ble_eq_true rfl⟩, (Nat.le_of_ble_eq_true rfl), (Nat.le_of_ble_eq_true rfl)⟩ (Nat.le_of_ble_eq_true rfl) dX8_isDue_10 rfl ?_
  refine xr_sipush 16 C (v := 900) dX8_isDue_13 (by decide) rfl ?_
  refine xr_icmp_ge 23 19 C dX8_isDue_16 (by decide) rfl (fun hc => ?_) (fun hc => ?_)
  · replace hf := (if_pos hc).symm.trans hf
    refine xr_sub [] (lv2 := []) rfl ?_
    exact w_X8_isDue_23 C hf ko
  · replace hf := (if_neg hc).symm.trans hf
    refine xr_sub [] (lv2 := []) rfl ?_
    exact w_X8_isDue_19 C hf ko
noncomputable def f_X8_isDue_0 (M : mm_M) (v0 : Option Nat) (v1 : Int32) (v2 : Option Nat) : Option (Int32) :=
  (mm_rc M v0 9).bind fun u1 =>
  (f_X8_isToCome M v0).bind fun x1 =>
  if x1 = 0 then f_X8_isDue_23 M else f_X8_isDue_7 M v0 v1 v2
set_option maxRecDepth 20000 in
theorem w_X8_isDue_0 {g : mm_c} (C : mm_ok g cX8_isDue "LessonCards$Memory" (some .boolean) "isDue" 3 2 43 0 0) {M : mm_M} {v0 : Option Nat} {v1 : Int32} {v2 : Option Nat} {res : Int32} (hf : f_X8_isDue_0 M v0 v1 v2 = some res) (ko : (fun z => mm_q g 0 0 (some (mm_i z)) M) res) : mm_X g 0 0 M 0 [(0, mm_r v0), (1, mm_i v1), (2, mm_r v2)] [] := by
  unfold f_X8_isDue_0 at hf
  refine xr_aload_n 1 0 C dX8_isDue_0 rfl rfl rfl ?_
  obtain ⟨u1, g1, hf⟩ := mm_bd_e hf
  obtain ⟨x1, h1, hf⟩ := mm_bd_e hf
  refine xr_callV 4 C [] cm_X8_45 (fun l G cy => c_X8_isToCome l G cy h1) g1 rfl rfl ⟨⟨Nat.le_of_ble_eq_true rfl, Nat.le_of_ble_eq_true rfl⟩, (Nat.le_of_ble_eq_true rfl), (Nat.le_of_ble_eq_true rfl)⟩ (Nat.le_of_ble_eq_true rfl) dX8_isDue_1 rfl ?_
  refine xr_if_eq 23 7 C dX8_isDue_4 (by decide) rfl (fun hc => ?_) (fun hc => ?_)
  · replace hf := (if_pos hc).symm.trans hf
    refine xr_sub [] (lv2 := []) rfl ?_
    exact w_X8_isDue_23 C hf ko
  · replace hf := (if_neg hc).symm.trans hf
    exact w_X8_isDue_7 C hf ko
noncomputable def f_X8_isDue (M : mm_M) (v0 : Option Nat) (v1 : Int32) (v2 : Option Nat) : Option (Int32) := f_X8_isDue_0 M v0 v1 v2
theorem c_X8_isDue (l : Launch) (G : va_G) (cy : Nat → ClassId) {M : mm_M} {v0 : Option Nat} {v1 : Int32} {v2 : Option Nat} {r : Int32} (hf : f_X8_isDue M v0 v1 v2 = some r) : mm_Met l yX8_isDue cX8_isDue 3 (some .boolean) 2 43 0 0 G cy [mm_r v0, mm_i v1, mm_r v2] M (some (mm_i r)) M :=
  mm_enter (by decide) (Nat.le_of_ble_eq_true rfl) (fun p e R s m args below meth c Q C hq => xr_sub [0, 1, 2] (lv2 := [(0, mm_r v0), (1, mm_i v1), (2, mm_r v2)]) rfl (w_X8_isDue_0 C hf hq))
noncomputable def f_X8_isOfKind_5 (M : mm_M) (v0 : Option Nat) (v2 : Int32) (v3 : Option Nat) : Option (Int32) :=
  (mm_rc M v0 9).bind fun u8 =>
  (f_X8_isDue M v0 v2 v3).bind fun x8 =>
  mm_gd (x8 = 0 ∨ x8 = 1) <|
  some x8
set_option maxRecDepth 20000 in
theorem w_X8_isOfKind_5 {g : mm_c} (C : mm_ok g cX8_isOfKind "LessonCards$Memory" (some .boolean) "isOfKind" 4 3 65 0 0) {M : mm_M} {v0 : Option Nat} {v2 : Int32} {v3 : Option Nat} {res : Int32} (hf : f_X8_isOfKind_5 M v0 v2 v3 = some res) (ko : (fun z => mm_q g 0 0 (some (mm_i z)) M) res) : mm_X g 0 0 M 5 [(0, mm_r v0), (2, mm_i v2), (3, mm_r v3)] [] := by
  unfold f_X8_isOfKind_5 at hf
  refine xr_aload_n 6 0 C dX8_isOfKind_5 rfl rfl rfl ?_
  refine xr_iload_n 7 1 C dX8_isOfKind_6 rfl rfl rfl ?_
  refine xr_aload_n 8 2 C dX8_isOfKind_7 rfl rfl rfl ?_
  obtain ⟨u8, g8, hf⟩ := mm_bd_e hf
  obtain ⟨x8, h8, hf⟩ := mm_bd_e hf
  refine xr_callV 11 C [mm_i v2, mm_r v3] cm_X8_53 (fun l G cy => c_X8_isDue l G cy h8) g8 rfl rfl ⟨⟨Nat.le_of_ble_eq_true rfl, Nat.le_of_ble_eq_true rfl⟩, (Nat.le_of_ble_eq_true rfl), (Nat.le_of_ble_eq_true rfl)⟩ (Nat.le_of_ble_eq_true rfl) dX8_isOfKind_8 rfl ?_
  obtain ⟨hz, hf⟩ := mm_gd_e hf
  obtain rfl := Option.some.inj hf
  exact xr_zret C hz ko ⟨(Nat.le_of_ble_eq_true rfl), (Nat.le_of_ble_eq_true rfl)⟩ dX8_isOfKind_11
noncomputable def f_X8_isOfKind_28 (M : mm_M) (s0 : Int32) : Option (Int32) :=
  mm_gd (s0 = 0 ∨ s0 = 1) <|
  some s0
set_option maxRecDepth 20000 in
theorem w_X8_isOfKind_28 {g : mm_c} (C : mm_ok g cX8_isOfKind "LessonCards$Memory" (some .boolean) "isOfKind" 4 3 65 0 0) {M : mm_M} {s0 : Int32} {res : Int32} (hf : f_X8_isOfKind_28 M s0 = some res) (ko : (fun z => mm_q g 0 0 (some (mm_i z)) M) res) : mm_X g 0 0 M 28 [] [mm_i s0] := by
  unfold f_X8_isOfKind_28 at hf
  obtain ⟨hz, hf⟩ := mm_gd_e hf
  obtain rfl := Option.some.inj hf
  exact xr_zret C hz ko ⟨(Nat.le_of_ble_eq_true rfl), (Nat.le_of_ble_eq_true rfl)⟩ dX8_isOfKind_28
noncomputable def f_X8_isOfKind_17 (M : mm_M) (v0 : Option Nat) : Option (Int32) :=
  (mm_rc M v0 9).bind fun u18 =>
  (f_X8_isFresh M v0).bind fun x18 =>
  f_X8_isOfKind_28 M x18
set_option maxRecDepth 20000 in
theorem w_X8_isOfKind_17 {g : mm_c} (C : mm_ok g cX8_isOfKind "LessonCards$Memory" (some .boolean) "isOfKind" 4 3 65 0 0) {M : mm_M} {v0 : Option Nat} {res : Int32} (hf : f_X8_isOfKind_17 M v0 = some res) (ko : (fun z => mm_q g 0 0 (some (mm_i z)) M) res) : mm_X g 0 0 M 17 [(0, mm_r v0)] [] := by
  unfold f_X8_isOfKind_17 at hf
  refine xr_aload_n 18 0 C dX8_isOfKind_17 rfl rfl rfl ?_
  obtain ⟨u18, g18, hf⟩ := mm_bd_e hf
  obtain ⟨x18, h18, hf⟩ := mm_bd_e hf
  refine xr_callV 21 C [] cm_X8_57 (fun l G cy => c_X8_isFresh l G cy h18) g18 rfl rfl ⟨⟨Nat.le_of_ble_eq_true rfl, Nat.le_of_ble_eq_true rfl⟩, (Nat.le_of_ble_eq_true rfl), (Nat.le_of_ble_eq_true rfl)⟩ (Nat.le_of_ble_eq_true rfl) dX8_isOfKind_18 rfl ?_
  refine xr_goto 28 C dX8_isOfKind_21 (by decide) ?_
  refine xr_sub [] (lv2 := []) rfl ?_
  exact w_X8_isOfKind_28 C hf ko
noncomputable def f_X8_isOfKind_24 (M : mm_M) (v0 : Option Nat) : Option (Int32) :=
  (mm_rc M v0 9).bind fun u25 =>
  (f_X8_isLeech M v0).bind fun x25 =>
  f_X8_isOfKind_28 M x25
set_option maxRecDepth 20000 in
theorem w_X8_isOfKind_24 {g : mm_c} (C : mm_ok g cX8_isOfKind "LessonCards$Memory" (some .boolean) "isOfKind" 4 3 65 0 0) {M : mm_M} {v0 : Option Nat} {res : Int32} (hf : f_X8_isOfKind_24 M v0 = some res) (ko : (fun z => mm_q g 0 0 (some (mm_i z)) M) res) : mm_X g 0 0 M 24 [(0, mm_r v0)] [] := by
  unfold f_X8_isOfKind_24 at hf
  refine xr_aload_n 25 0 C dX8_isOfKind_24 rfl rfl rfl ?_
  obtain ⟨u25, g25, hf⟩ := mm_bd_e hf
  obtain ⟨x25, h25, hf⟩ := mm_bd_e hf
  refine xr_callV 28 C [] cm_X8_60 (fun l G cy => c_X8_isLeech l G cy h25) g25 rfl rfl ⟨⟨Nat.le_of_ble_eq_true rfl, Nat.le_of_ble_eq_true rfl⟩, (Nat.le_of_ble_eq_true rfl), (Nat.le_of_ble_eq_true rfl)⟩ (Nat.le_of_ble_eq_true rfl) dX8_isOfKind_25 rfl ?_
  refine xr_sub [] (lv2 := []) rfl ?_
  exact w_X8_isOfKind_28 C hf ko
noncomputable def f_X8_isOfKind_12 (M : mm_M) (v0 : Option Nat) (v1 : Int32) : Option (Int32) :=
  if v1 = 2 then f_X8_isOfKind_17 M v0 else f_X8_isOfKind_24 M v0
set_option maxRecDepth 20000 in
theorem w_X8_isOfKind_12 {g : mm_c} (C : mm_ok g cX8_isOfKind "LessonCards$Memory" (some .boolean) "isOfKind" 4 3 65 0 0) {M : mm_M} {v0 : Option Nat} {v1 : Int32} {res : Int32} (hf : f_X8_isOfKind_12 M v0 v1 = some res) (ko : (fun z => mm_q g 0 0 (some (mm_i z)) M) res) : mm_X g 0 0 M 12 [(0, mm_r v0), (1, mm_i v1)] [] := by
  unfold f_X8_isOfKind_12 at hf
  refine xr_iload_n 13 1 C dX8_isOfKind_12 rfl rfl rfl ?_
  refine xr_iconst 14 C (v := 2) dX8_isOfKind_13 (by decide) rfl ?_
  refine xr_icmp_ne 24 17 C dX8_isOfKind_14 (by decide) rfl (fun hc => ?_) (fun hc => ?_)
  · replace hf := (if_neg hc).symm.trans hf
    refine xr_sub [0] (lv2 := [(0, mm_r v0)]) rfl ?_
    exact w_X8_isOfKind_24 C hf ko
  · replace hf := (if_pos hc).symm.trans hf
    refine xr_sub [0] (lv2 := [(0, mm_r v0)]) rfl ?_
    exact w_X8_isOfKind_17 C hf ko
noncomputable def f_X8_isOfKind_0 (M : mm_M) (v0 : Option Nat) (v1 : Int32) (v2 : Int32) (v3 : Option Nat) : Option (Int32) :=
  if v1 = 1 then f_X8_isOfKind_5 M v0 v2 v3 else f_X8_isOfKind_12 M v0 v1
set_option maxRecDepth 20000 in
theorem w_X8_isOfKind_0 {g : mm_c} (C : mm_ok g cX8_isOfKind "LessonCards$Memory" (some .boolean) "isOfKind" 4 3 65 0 0) {M : mm_M} {v0 : Option Nat} {v1 : Int32} {v2 : Int32} {v3 : Option Nat} {res : Int32} (hf : f_X8_isOfKind_0 M v0 v1 v2 v3 = some res) (ko : (fun z => mm_q g 0 0 (some (mm_i z)) M) res) : mm_X g 0 0 M 0 [(0, mm_r v0), (1, mm_i v1), (2, mm_i v2), (3, mm_r v3)] [] := by
  unfold f_X8_isOfKind_0 at hf
  refine xr_iload_n 1 1 C dX8_isOfKind_0 rfl rfl rfl ?_
  refine xr_iconst 2 C (v := 1) dX8_isOfKind_1 (by decide) rfl ?_
  refine xr_icmp_ne 12 5 C dX8_isOfKind_2 (by decide) rfl (fun hc => ?_) (fun hc => ?_)
  · replace hf := (if_neg hc).symm.trans hf
    refine xr_sub [0, 1] (lv2 := [(0, mm_r v0), (1, mm_i v1)]) rfl ?_
    exact w_X8_isOfKind_12 C hf ko
  · replace hf := (if_pos hc).symm.trans hf
    refine xr_sub [0, 2, 3] (lv2 := [(0, mm_r v0), (2, mm_i v2), (3, mm_r v3)]) rfl ?_
    exact w_X8_isOfKind_5 C hf ko
noncomputable def f_X8_isOfKind (M : mm_M) (v0 : Option Nat) (v1 : Int32) (v2 : Int32) (v3 : Option Nat) : Option (Int32) := f_X8_isOfKind_0 M v0 v1 v2 v3
theorem c_X8_isOfKind (l : Launch) (G : va_G) (cy : Nat → ClassId) {M : mm_M} {v0 : Option Nat} {v1 : Int32} {v2 : Int32} {v3 : Option Nat} {r : Int32} (hf : f_X8_isOfKind M v0 v1 v2 v3 = some r) : mm_Met l yX8_isOfKind cX8_isOfKind 4 (some .boolean) 3 65 0 0 G cy [mm_r v0, mm_i v1, mm_i v2, mm_r v3] M (some (mm_i r)) M :=
  mm_enter (by decide) (Nat.le_of_ble_eq_true rfl) (fun p e R s m args below meth c Q C hq => xr_sub [0, 1, 2, 3] (lv2 := [(0, mm_r v0), (1, mm_i v1), (2, mm_i v2), (3, mm_r v3)]) rfl (w_X8_isOfKind_0 C hf hq))
def h_X5_countSides_6 (g : mm_c) (M : mm_M) (v0 : Option Nat) (v1 : Int32) (v2 : Int32) (v3 : Option Nat) : (Int32 × Int32) → Prop := fun x => mm_X g 0 0 M 6 [(0, mm_r v0), (1, mm_i v1), (2, mm_i v2), (3, mm_r v3), (4, mm_i x.1), (5, mm_i x.2)] []
noncomputable def f_X5_countSides_35 (M : mm_M) (v0 : Option Nat) (v1 : Int32) (v2 : Int32) (v3 : Option Nat) (v4 : Int32) (v5 : Int32) : Option ((Int32 × Int32) ⊕ (Int32)) :=
  some (.inl (v4, (v5 + 1)))
set_option maxRecDepth 20000 in
theorem w_X5_countSides_35 {g : mm_c} (C : mm_ok g cX5_countSides "LessonCards$Hand" (some .int) "countSides" 6 4 88 0 0) {M : mm_M} {v0 : Option Nat} {v1 : Int32} {v2 : Int32} {v3 : Option Nat} {v4 : Int32} {v5 : Int32} {res : (Int32 × Int32) ⊕ (Int32)} (hf : f_X5_countSides_35 M v0 v1 v2 v3 v4 v5 = some res) (ko : (mm_o (h_X5_countSides_6 g M v0 v1 v2 v3) (fun z => mm_q g 0 0 (some (mm_i z)) M)) res) : mm_X g 0 0 M 35 [(0, mm_r v0), (1, mm_i v1), (2, mm_i v2), (3, mm_r v3), (4, mm_i v4), (5, mm_i v5)] [] := by
  unfold f_X5_countSides_35 at hf
  refine xr_iinc 38 5 C dX5_countSides_35 rfl (by decide) (v := 1) (by decide) rfl [(5, mm_i (v5 + 1)), (0, mm_r v0), (1, mm_i v1), (2, mm_i v2), (3, mm_r v3), (4, mm_i v4)] rfl ?_
  refine xr_goto 6 C dX5_countSides_38 (by decide) ?_
  refine xr_sub [1, 2, 3, 4, 5, 0] (lv2 := [(0, mm_r v0), (1, mm_i v1), (2, mm_i v2), (3, mm_r v3), (4, mm_i v4), (5, mm_i (v5 + 1))]) rfl ?_
  obtain rfl := Option.some.inj hf
  exact ko
noncomputable def f_X5_countSides_32 (M : mm_M) (v0 : Option Nat) (v1 : Int32) (v2 : Int32) (v3 : Option Nat) (v4 : Int32) (v5 : Int32) : Option ((Int32 × Int32) ⊕ (Int32)) :=
  f_X5_countSides_35 M v0 v1 v2 v3 (v4 + 1) v5
set_option maxRecDepth 20000 in
theorem w_X5_countSides_32 {g : mm_c} (C : mm_ok g cX5_countSides "LessonCards$Hand" (some .int) "countSides" 6 4 88 0 0) {M : mm_M} {v0 : Option Nat} {v1 : Int32} {v2 : Int32} {v3 : Option Nat} {v4 : Int32} {v5 : Int32} {res : (Int32 × Int32) ⊕ (Int32)} (hf : f_X5_countSides_32 M v0 v1 v2 v3 v4 v5 = some res) (ko : (mm_o (h_X5_countSides_6 g M v0 v1 v2 v3) (fun z => mm_q g 0 0 (some (mm_i z)) M)) res) : mm_X g 0 0 M 32 [(0, mm_r v0), (1, mm_i v1), (2, mm_i v2), (3, mm_r v3), (4, mm_i v4), (5, mm_i v5)] [] := by
  unfold f_X5_countSides_32 at hf
  refine xr_iinc 35 4 C dX5_countSides_32 rfl (by decide) (v := 1) (by decide) rfl [(4, mm_i (v4 + 1)), (0, mm_r v0), (1, mm_i v1), (2, mm_i v2), (3, mm_r v3), (5, mm_i v5)] rfl ?_
  refine xr_sub [1, 2, 3, 4, 0, 5] (lv2 := [(0, mm_r v0), (1, mm_i v1), (2, mm_i v2), (3, mm_r v3), (4, mm_i (v4 + 1)), (5, mm_i v5)]) rfl ?_
  exact w_X5_countSides_35 C hf ko
noncomputable def f_X5_countSides_16 (M : mm_M) (v0 : Option Nat) (v1 : Int32) (v2 : Int32) (v3 : Option Nat) (v4 : Int32) (v5 : Int32) : Option ((Int32 × Int32) ⊕ (Int32)) :=
  (mm_fR M v0 6 0).bind fun x17 =>
  (mm_aR M x17 16 v5).bind fun x22 =>
  (mm_rc M x22 9).bind fun u26 =>
  (f_X8_isOfKind M x22 v1 v2 v3).bind fun x26 =>
  if x26 = 0 then f_X5_countSides_35 M v0 v1 v2 v3 v4 v5 else f_X5_countSides_32 M v0 v1 v2 v3 v4 v5
set_option maxRecDepth 20000 in
theorem w_X5_countSides_16 {g : mm_c} (C : mm_ok g cX5_countSides "LessonCards$Hand" (some .int) "countSides" 6 4 88 0 0) {M : mm_M} {v0 : Option Nat} {v1 : Int32} {v2 : Int32} {v3 : Option Nat} {v4 : Int32} {v5 : Int32} {res : (Int32 × Int32) ⊕ (Int32)} (hf : f_X5_countSides_16 M v0 v1 v2 v3 v4 v5 = some res) (ko : (mm_o (h_X5_countSides_6 g M v0 v1 v2 v3) (fun z => mm_q g 0 0 (some (mm_i z)) M)) res) : mm_X g 0 0 M 16 [(0, mm_r v0), (1, mm_i v1), (2, mm_i v2), (3, mm_r v3), (4, mm_i v4), (5, mm_i v5)] [] := by
  unfold f_X5_countSides_16 at hf
  refine xr_aload_n 17 0 C dX5_countSides_16 rfl rfl rfl ?_
  obtain ⟨x17, h17, hf⟩ := mm_bd_e hf
  refine xr_getR 20 C cf_X5_11 rfl h17 dX5_countSides_17 rfl ?_
  refine xr_iload 22 5 C dX5_countSides_20 rfl rfl ?_
  obtain ⟨x22, h22, hf⟩ := mm_bd_e hf
  refine xr_aldR 23 C 16 (by decide) h22 dX5_countSides_22 rfl ?_
  refine xr_iload_n 24 1 C dX5_countSides_23 rfl rfl rfl ?_
  refine xr_iload_n 25 2 C dX5_countSides_24 rfl rfl rfl ?_
  refine xr_aload_n 26 3 C dX5_countSides_25 rfl rfl rfl ?_
  obtain ⟨u26, g26, hf⟩ := mm_bd_e hf
  obtain ⟨x26, h26, hf⟩ := mm_bd_e hf
  refine xr_callV 29 C [mm_i v1, mm_i v2, mm_r v3] cm_X5_44 (fun l G cy => c_X8_isOfKind l G cy h26) g26 rfl rfl ⟨⟨Nat.le_of_ble_eq_true rfl, Nat.le_of_ble_eq_true rfl⟩, (Nat.le_of_ble_eq_true rfl), (Nat.le_of_ble_eq_true rfl)⟩ (Nat.le_of_ble_eq_true rfl) dX5_countSides_26 rfl ?_
  refine xr_if_eq 35 32 C dX5_countSides_29 (by decide) rfl (fun hc => ?_) (fun hc => ?_)
  · replace hf := (if_pos hc).symm.trans hf
    exact w_X5_countSides_35 C hf ko
  · replace hf := (if_neg hc).symm.trans hf
    exact w_X5_countSides_32 C hf ko
noncomputable def f_X5_countSides_41 (M : mm_M) (v4 : Int32) : Option (Int32) :=
  some v4
set_option maxRecDepth 20000 in
theorem w_X5_countSides_41 {g : mm_c} (C : mm_ok g cX5_countSides "LessonCards$Hand" (some .int) "countSides" 6 4 88 0 0) {M : mm_M} {v4 : Int32} {res : Int32} (hf : f_X5_countSides_41 M v4 = some res) (ko : (fun z => mm_q g 0 0 (some (mm_i z)) M) res) : mm_X g 0 0 M 41 [(4, mm_i v4)] [] := by
  unfold f_X5_countSides_41 at hf
  refine xr_iload 43 0 C dX5_countSides_41 rfl rfl ?_
  obtain rfl := Option.some.inj hf
  exact xr_iret C ko ⟨(Nat.le_of_ble_eq_true rfl), (Nat.le_of_ble_eq_true rfl)⟩ dX5_countSides_43
noncomputable def f_X5_countSides_6 (M : mm_M) (v0 : Option Nat) (v1 : Int32) (v2 : Int32) (v3 : Option Nat) (v4 : Int32) (v5 : Int32) : Option ((Int32 × Int32) ⊕ (Int32)) :=
  (mm_fR M v0 6 0).bind fun x9 =>
  (mm_ln M x9).bind fun x12 =>
  if x12 ≤ v5 then mm_mp (f_X5_countSides_41 M v4) else f_X5_countSides_16 M v0 v1 v2 v3 v4 v5
set_option maxRecDepth 20000 in
theorem w_X5_countSides_6 {g : mm_c} (C : mm_ok g cX5_countSides "LessonCards$Hand" (some .int) "countSides" 6 4 88 0 0) {M : mm_M} {v0 : Option Nat} {v1 : Int32} {v2 : Int32} {v3 : Option Nat} {v4 : Int32} {v5 : Int32} {res : (Int32 × Int32) ⊕ (Int32)} (hf : f_X5_countSides_6 M v0 v1 v2 v3 v4 v5 = some res) (ko : (mm_o (h_X5_countSides_6 g M v0 v1 v2 v3) (fun z => mm_q g 0 0 (some (mm_i z)) M)) res) : mm_X g 0 0 M 6 [(0, mm_r v0), (1, mm_i v1), (2, mm_i v2), (3, mm_r v3), (4, mm_i v4), (5, mm_i v5)] [] := by
  unfold f_X5_countSides_6 at hf
  refine xr_iload 8 5 C dX5_countSides_6 rfl rfl ?_
  refine xr_aload_n 9 0 C dX5_countSides_8 rfl rfl rfl ?_
  obtain ⟨x9, h9, hf⟩ := mm_bd_e hf
  refine xr_getR 12 C cf_X5_11 rfl h9 dX5_countSides_9 rfl ?_
  obtain ⟨x12, h12, hf⟩ := mm_bd_e hf
  refine xr_alen 13 C h12 dX5_countSides_12 rfl ?_
  refine xr_icmp_ge 41 16 C dX5_countSides_13 (by decide) rfl (fun hc => ?_) (fun hc => ?_)
  · replace hf := (if_pos hc).symm.trans hf
    refine xr_sub [4] (lv2 := [(4, mm_i v4)]) rfl ?_
    obtain ⟨z, hf2, rfl⟩ := mm_mp_e hf
    clear hf
    have hf := hf2
    clear hf2
    exact w_X5_countSides_41 C hf ko
  · replace hf := (if_neg hc).symm.trans hf
    exact w_X5_countSides_16 C hf ko
noncomputable def f_X5_countSides_6w (M : mm_M) (v0 : Option Nat) (v1 : Int32) (v2 : Int32) (v3 : Option Nat) (v4 : Int32) (v5 : Int32) : Option (Int32) := mm_w (fun x => f_X5_countSides_6 M v0 v1 v2 v3 x.1 x.2) (v4, v5)
theorem l_X5_countSides_6 {g : mm_c} (C : mm_ok g cX5_countSides "LessonCards$Hand" (some .int) "countSides" 6 4 88 0 0) {M : mm_M} {v0 : Option Nat} {v1 : Int32} {v2 : Int32} {v3 : Option Nat} {v4 : Int32} {v5 : Int32} {res : Int32} (hf : f_X5_countSides_6w M v0 v1 v2 v3 v4 v5 = some res) (ko : (fun z => mm_q g 0 0 (some (mm_i z)) M) res) : mm_X g 0 0 M 6 [(0, mm_r v0), (1, mm_i v1), (2, mm_i v2), (3, mm_r v3), (4, mm_i v4), (5, mm_i v5)] [] :=
  mm_w_W (body := fun x => f_X5_countSides_6 M v0 v1 v2 v3 x.1 x.2) (Wh := h_X5_countSides_6 g M v0 v1 v2 v3) (ok := (fun z => mm_q g 0 0 (some (mm_i z)) M)) (x := (v4, v5)) (fun x r hb ho => w_X5_countSides_6 C hb ho) hf ko
noncomputable def f_X5_countSides_0 (M : mm_M) (v0 : Option Nat) (v1 : Int32) (v2 : Int32) (v3 : Option Nat) : Option (Int32) :=
  f_X5_countSides_6w M v0 v1 v2 v3 0 0
set_option maxRecDepth 20000 in
theorem w_X5_countSides_0 {g : mm_c} (C : mm_ok g cX5_countSides "LessonCards$Hand" (some .int) "countSides" 6 4 88 0 0) {M : mm_M} {v0 : Option Nat} {v1 : Int32} {v2 : Int32} {v3 : Option Nat} {res : Int32} (hf : f_X5_countSides_0 M v0 v1 v2 v3 = some res) (ko : (fun z => mm_q g 0 0 (some (mm_i z)) M) res) : mm_X g 0 0 M 0 [(0, mm_r v0), (1, mm_i v1), (2, mm_i v2), (3, mm_r v3)] [] := by
  unfold f_X5_countSides_0 at hf
  refine xr_iconst 1 C (v := 0) dX5_countSides_0 (by decide) rfl ?_
  refine xr_istore 3 C dX5_countSides_1 (by decide) rfl [(4, mm_i 0), (0, mm_r v0), (1, mm_i v1), (2, mm_i v2), (3, mm_r v3)] rfl ?_
  refine xr_iconst 4 C (v := 0) dX5_countSides_3 (by decide) rfl ?_
  refine xr_istore 6 C dX5_countSides_4 (by decide) rfl [(5, mm_i 0), (4, mm_i 0), (0, mm_r v0), (1, mm_i v1), (2, mm_i v2), (3, mm_r v3)] rfl ?_
  refine xr_sub [2, 3, 4, 5, 1, 0] (lv2 := [(0, mm_r v0), (1, mm_i v1), (2, mm_i v2), (3, mm_r v3), (4, mm_i 0), (5, mm_i 0)]) rfl ?_
  exact l_X5_countSides_6 C hf ko
noncomputable def f_X5_countSides (M : mm_M) (v0 : Option Nat) (v1 : Int32) (v2 : Int32) (v3 : Option Nat) : Option (Int32) := f_X5_countSides_0 M v0 v1 v2 v3
theorem c_X5_countSides (l : Launch) (G : va_G) (cy : Nat → ClassId) {M : mm_M} {v0 : Option Nat} {v1 : Int32} {v2 : Int32} {v3 : Option Nat} {r : Int32} (hf : f_X5_countSides M v0 v1 v2 v3 = some r) : mm_Met l yX5_countSides cX5_countSides 6 (some .int) 4 88 0 0 G cy [mm_r v0, mm_i v1, mm_i v2, mm_r v3] M (some (mm_i r)) M :=
  mm_enter (by decide) (Nat.le_of_ble_eq_true rfl) (fun p e R s m args below meth c Q C hq => xr_sub [0, 1, 2, 3] (lv2 := [(0, mm_r v0), (1, mm_i v1), (2, mm_i v2), (3, mm_r v3)]) rfl (w_X5_countSides_0 C hf hq))
def h_X5_mostUrgent_10 (g : mm_c) (M : mm_M) (v0 : Option Nat) (v1 : Int32) (v2 : Option Nat) : (Int32 × Int32 × Int32) → Prop := fun x => mm_X g 0 0 M 10 [(0, mm_r v0), (1, mm_i v1), (2, mm_r v2), (3, mm_i x.1), (4, mm_i x.2.1), (5, mm_i x.2.2)] []
noncomputable def f_X5_mostUrgent_70 (M : mm_M) (v0 : Option Nat) (v1 : Int32) (v2 : Option Nat) (v3 : Int32) (v4 : Int32) (v5 : Int32) : Option ((Int32 × Int32 × Int32) ⊕ (Int32)) :=
  some (.inl (v3, v4, (v5 + 1)))
set_option maxRecDepth 20000 in
theorem w_X5_mostUrgent_70 {g : mm_c} (C : mm_ok g cX5_mostUrgent "LessonCards$Hand" (some .int) "mostUrgent" 8 3 65 0 0) {M : mm_M} {v0 : Option Nat} {v1 : Int32} {v2 : Option Nat} {v3 : Int32} {v4 : Int32} {v5 : Int32} {res : (Int32 × Int32 × Int32) ⊕ (Int32)} (hf : f_X5_mostUrgent_70 M v0 v1 v2 v3 v4 v5 = some res) (ko : (mm_o (h_X5_mostUrgent_10 g M v0 v1 v2) (fun z => mm_q g 0 0 (some (mm_i z)) M)) res) : mm_X g 0 0 M 70 [(0, mm_r v0), (1, mm_i v1), (2, mm_r v2), (3, mm_i v3), (4, mm_i v4), (5, mm_i v5)] [] := by
  unfold f_X5_mostUrgent_70 at hf
  refine xr_iinc 73 5 C dX5_mostUrgent_70 rfl (by decide) (v := 1) (by decide) rfl [(5, mm_i (v5 + 1)), (0, mm_r v0), (1, mm_i v1), (2, mm_r v2), (3, mm_i v3), (4, mm_i v4)] rfl ?_
  refine xr_goto 10 C dX5_mostUrgent_73 (by decide) ?_
  refine xr_sub [1, 2, 3, 4, 5, 0] (lv2 := [(0, mm_r v0), (1, mm_i v1), (2, mm_r v2), (3, mm_i v3), (4, mm_i v4), (5, mm_i (v5 + 1))]) rfl ?_
  obtain rfl := Option.some.inj hf
  exact ko
noncomputable def f_X5_mostUrgent_63 (M : mm_M) (v0 : Option Nat) (v1 : Int32) (v2 : Option Nat) (v5 : Int32) (v7 : Int32) : Option ((Int32 × Int32 × Int32) ⊕ (Int32)) :=
  f_X5_mostUrgent_70 M v0 v1 v2 v5 v7 v5
set_option maxRecDepth 20000 in
theorem w_X5_mostUrgent_63 {g : mm_c} (C : mm_ok g cX5_mostUrgent "LessonCards$Hand" (some .int) "mostUrgent" 8 3 65 0 0) {M : mm_M} {v0 : Option Nat} {v1 : Int32} {v2 : Option Nat} {v5 : Int32} {v7 : Int32} {res : (Int32 × Int32 × Int32) ⊕ (Int32)} (hf : f_X5_mostUrgent_63 M v0 v1 v2 v5 v7 = some res) (ko : (mm_o (h_X5_mostUrgent_10 g M v0 v1 v2) (fun z => mm_q g 0 0 (some (mm_i z)) M)) res) : mm_X g 0 0 M 63 [(0, mm_r v0), (1, mm_i v1), (2, mm_r v2), (5, mm_i v5), (7, mm_i v7)] [] := by
  unfold f_X5_mostUrgent_63 at hf
  refine xr_iload 65 4 C dX5_mostUrgent_63 rfl rfl ?_
  refine xr_istore 67 C dX5_mostUrgent_65 (by decide) rfl [(4, mm_i v7), (0, mm_r v0), (1, mm_i v1), (2, mm_r v2), (5, mm_i v5), (7, mm_i v7)] rfl ?_
  refine xr_iload 69 4 C dX5_mostUrgent_67 rfl rfl ?_
  refine xr_istore_n 70 C dX5_mostUrgent_69 rfl (by decide) rfl [(3, mm_i v5), (4, mm_i v7), (0, mm_r v0), (1, mm_i v1), (2, mm_r v2), (5, mm_i v5), (7, mm_i v7)] rfl ?_
  refine xr_sub [2, 3, 4, 0, 1, 5] (lv2 := [(0, mm_r v0), (1, mm_i v1), (2, mm_r v2), (3, mm_i v5), (4, mm_i v7), (5, mm_i v5)]) rfl ?_
  exact w_X5_mostUrgent_70 C hf ko
noncomputable def f_X5_mostUrgent_47 (M : mm_M) (v0 : Option Nat) (v1 : Int32) (v2 : Option Nat) (v3 : Int32) (v4 : Int32) (v5 : Int32) (v6 : Option Nat) : Option ((Int32 × Int32 × Int32) ⊕ (Int32)) :=
  (mm_rc M v6 9).bind fun u51 =>
  (f_X8_chanceOn M v6 v1 v2).bind fun x51 =>
  if v4 ≤ x51 then f_X5_mostUrgent_70 M v0 v1 v2 v3 v4 v5 else f_X5_mostUrgent_63 M v0 v1 v2 v5 x51
set_option maxRecDepth 20000 in
theorem w_X5_mostUrgent_47 {g : mm_c} (C : mm_ok g cX5_mostUrgent "LessonCards$Hand" (some .int) "mostUrgent" 8 3 65 0 0) {M : mm_M} {v0 : Option Nat} {v1 : Int32} {v2 : Option Nat} {v3 : Int32} {v4 : Int32} {v5 : Int32} {v6 : Option Nat} {res : (Int32 × Int32 × Int32) ⊕ (Int32)} (hf : f_X5_mostUrgent_47 M v0 v1 v2 v3 v4 v5 v6 = some res) (ko : (mm_o (h_X5_mostUrgent_10 g M v0 v1 v2) (fun z => mm_q g 0 0 (some (mm_i z)) M)) res) : mm_X g 0 0 M 47 [(0, mm_r v0), (1, mm_i v1), (2, mm_r v2), (3, mm_i v3), (4, mm_i v4), (5, mm_i v5), (6, mm_r v6)] [] := by
  unfold f_X5_mostUrgent_47 at hf
  refine xr_aload 49 6 C dX5_mostUrgent_47 rfl rfl ?_
  refine xr_iload_n 50 1 C dX5_mostUrgent_49 rfl rfl rfl ?_
  refine xr_aload_n 51 2 C dX5_mostUrgent_50 rfl rfl rfl ?_
  obtain ⟨u51, g51, hf⟩ := mm_bd_e hf
  obtain ⟨x51, h51, hf⟩ := mm_bd_e hf
  refine xr_callV 54 C [mm_i v1, mm_r v2] cm_X5_51 (fun l G cy => c_X8_chanceOn l G cy h51) g51 rfl rfl ⟨⟨Nat.le_of_ble_eq_true rfl, Nat.le_of_ble_eq_true rfl⟩, (Nat.le_of_ble_eq_true rfl), (Nat.le_of_ble_eq_true rfl)⟩ (Nat.le_of_ble_eq_true rfl) dX5_mostUrgent_51 rfl ?_
  refine xr_istore 56 C dX5_mostUrgent_54 (by decide) rfl [(7, mm_i x51), (0, mm_r v0), (1, mm_i v1), (2, mm_r v2), (3, mm_i v3), (4, mm_i v4), (5, mm_i v5), (6, mm_r v6)] rfl ?_
  refine xr_iload 58 0 C dX5_mostUrgent_56 rfl rfl ?_
  refine xr_iload 60 5 C dX5_mostUrgent_58 rfl rfl ?_
  refine xr_icmp_ge 70 63 C dX5_mostUrgent_60 (by decide) rfl (fun hc => ?_) (fun hc => ?_)
  · replace hf := (if_pos hc).symm.trans hf
    refine xr_sub [1, 2, 3, 4, 5, 6] (lv2 := [(0, mm_r v0), (1, mm_i v1), (2, mm_r v2), (3, mm_i v3), (4, mm_i v4), (5, mm_i v5)]) rfl ?_
    exact w_X5_mostUrgent_70 C hf ko
  · replace hf := (if_neg hc).symm.trans hf
    refine xr_sub [1, 2, 3, 6, 0] (lv2 := [(0, mm_r v0), (1, mm_i v1), (2, mm_r v2), (5, mm_i v5), (7, mm_i x51)]) rfl ?_
    exact w_X5_mostUrgent_63 C hf ko
noncomputable def f_X5_mostUrgent_37 (M : mm_M) (v0 : Option Nat) (v1 : Int32) (v2 : Option Nat) (v3 : Int32) (v4 : Int32) (v5 : Int32) (v6 : Option Nat) : Option ((Int32 × Int32 × Int32) ⊕ (Int32)) :=
  (mm_rc M v6 9).bind fun u41 =>
  (f_X8_isDue M v6 v1 v2).bind fun x41 =>
  if x41 = 0 then f_X5_mostUrgent_70 M v0 v1 v2 v3 v4 v5 else f_X5_mostUrgent_47 M v0 v1 v2 v3 v4 v5 v6
set_option maxRecDepth 20000 in
theorem w_X5_mostUrgent_37 {g : mm_c} (C : mm_ok g cX5_mostUrgent "LessonCards$Hand" (some .int) "mostUrgent" 8 3 65 0 0) {M : mm_M} {v0 : Option Nat} {v1 : Int32} {v2 : Option Nat} {v3 : Int32} {v4 : Int32} {v5 : Int32} {v6 : Option Nat} {res : (Int32 × Int32 × Int32) ⊕ (Int32)} (hf : f_X5_mostUrgent_37 M v0 v1 v2 v3 v4 v5 v6 = some res) (ko : (mm_o (h_X5_mostUrgent_10 g M v0 v1 v2) (fun z => mm_q g 0 0 (some (mm_i z)) M)) res) : mm_X g 0 0 M 37 [(0, mm_r v0), (1, mm_i v1), (2, mm_r v2), (3, mm_i v3), (4, mm_i v4), (5, mm_i v5), (6, mm_r v6)] [] := by
  unfold f_X5_mostUrgent_37 at hf
  refine xr_aload 39 6 C dX5_mostUrgent_37 rfl rfl ?_
  refine xr_iload_n 40 1 C dX5_mostUrgent_39 rfl rfl rfl ?_
  refine xr_aload_n 41 2 C dX5_mostUrgent_40 rfl rfl rfl ?_
  obtain ⟨u41, g41, hf⟩ := mm_bd_e hf
  obtain ⟨x41, h41, hf⟩ := mm_bd_e hf
  refine xr_callV 44 C [mm_i v1, mm_r v2] cm_X5_48 (fun l G cy => c_X8_isDue l G cy h41) g41 rfl rfl ⟨⟨Nat.le_of_ble_eq_true rfl, Nat.le_of_ble_eq_true rfl⟩, (Nat.le_of_ble_eq_true rfl), (Nat.le_of_ble_eq_true rfl)⟩ (Nat.le_of_ble_eq_true rfl) dX5_mostUrgent_41 rfl ?_
  refine xr_if_eq 70 47 C dX5_mostUrgent_44 (by decide) rfl (fun hc => ?_) (fun hc => ?_)
  · replace hf := (if_pos hc).symm.trans hf
    refine xr_sub [0, 1, 2, 3, 4, 5] (lv2 := [(0, mm_r v0), (1, mm_i v1), (2, mm_r v2), (3, mm_i v3), (4, mm_i v4), (5, mm_i v5)]) rfl ?_
    exact w_X5_mostUrgent_70 C hf ko
  · replace hf := (if_neg hc).symm.trans hf
    exact w_X5_mostUrgent_47 C hf ko
noncomputable def f_X5_mostUrgent_20 (M : mm_M) (v0 : Option Nat) (v1 : Int32) (v2 : Option Nat) (v3 : Int32) (v4 : Int32) (v5 : Int32) : Option ((Int32 × Int32 × Int32) ⊕ (Int32)) :=
  (mm_fR M v0 6 0).bind fun x21 =>
  (mm_aR M x21 16 v5).bind fun x26 =>
  (mm_fI M x26 9 5).bind fun x31 =>
  if x31 = 0 then f_X5_mostUrgent_37 M v0 v1 v2 v3 v4 v5 x26 else f_X5_mostUrgent_70 M v0 v1 v2 v3 v4 v5
set_option maxRecDepth 20000 in
theorem w_X5_mostUrgent_20 {g : mm_c} (C : mm_ok g cX5_mostUrgent "LessonCards$Hand" (some .int) "mostUrgent" 8 3 65 0 0) {M : mm_M} {v0 : Option Nat} {v1 : Int32} {v2 : Option Nat} {v3 : Int32} {v4 : Int32} {v5 : Int32} {res : (Int32 × Int32 × Int32) ⊕ (Int32)} (hf : f_X5_mostUrgent_20 M v0 v1 v2 v3 v4 v5 = some res) (ko : (mm_o (h_X5_mostUrgent_10 g M v0 v1 v2) (fun z => mm_q g 0 0 (some (mm_i z)) M)) res) : mm_X g 0 0 M 20 [(0, mm_r v0), (1, mm_i v1), (2, mm_r v2), (3, mm_i v3), (4, mm_i v4), (5, mm_i v5)] [] := by
  unfold f_X5_mostUrgent_20 at hf
  refine xr_aload_n 21 0 C dX5_mostUrgent_20 rfl rfl rfl ?_
  obtain ⟨x21, h21, hf⟩ := mm_bd_e hf
  refine xr_getR 24 C cf_X5_11 rfl h21 dX5_mostUrgent_21 rfl ?_
  refine xr_iload 26 5 C dX5_mostUrgent_24 rfl rfl ?_
  obtain ⟨x26, h26, hf⟩ := mm_bd_e hf
  refine xr_aldR 27 C 16 (by decide) h26 dX5_mostUrgent_26 rfl ?_
  refine xr_astore 29 C dX5_mostUrgent_27 (by decide) rfl [(6, mm_r x26), (0, mm_r v0), (1, mm_i v1), (2, mm_r v2), (3, mm_i v3), (4, mm_i v4), (5, mm_i v5)] rfl ?_
  refine xr_aload 31 0 C dX5_mostUrgent_29 rfl rfl ?_
  obtain ⟨x31, h31, hf⟩ := mm_bd_e hf
  refine xr_getI 34 C cf_X5_26 rfl h31 dX5_mostUrgent_31 rfl ?_
  refine xr_if_ne 70 37 C dX5_mostUrgent_34 (by decide) rfl (fun hc => ?_) (fun hc => ?_)
  · replace hf := (if_neg hc).symm.trans hf
    refine xr_sub [1, 2, 3, 4, 5, 6] (lv2 := [(0, mm_r v0), (1, mm_i v1), (2, mm_r v2), (3, mm_i v3), (4, mm_i v4), (5, mm_i v5)]) rfl ?_
    exact w_X5_mostUrgent_70 C hf ko
  · replace hf := (if_pos hc).symm.trans hf
    refine xr_sub [1, 2, 3, 4, 5, 6, 0] (lv2 := [(0, mm_r v0), (1, mm_i v1), (2, mm_r v2), (3, mm_i v3), (4, mm_i v4), (5, mm_i v5), (6, mm_r x26)]) rfl ?_
    exact w_X5_mostUrgent_37 C hf ko
noncomputable def f_X5_mostUrgent_76 (M : mm_M) (v3 : Int32) : Option (Int32) :=
  some v3
set_option maxRecDepth 20000 in
theorem w_X5_mostUrgent_76 {g : mm_c} (C : mm_ok g cX5_mostUrgent "LessonCards$Hand" (some .int) "mostUrgent" 8 3 65 0 0) {M : mm_M} {v3 : Int32} {res : Int32} (hf : f_X5_mostUrgent_76 M v3 = some res) (ko : (fun z => mm_q g 0 0 (some (mm_i z)) M) res) : mm_X g 0 0 M 76 [(3, mm_i v3)] [] := by
  unfold f_X5_mostUrgent_76 at hf
  refine xr_iload_n 77 0 C dX5_mostUrgent_76 rfl rfl rfl ?_
  obtain rfl := Option.some.inj hf
  exact xr_iret C ko ⟨(Nat.le_of_ble_eq_true rfl), (Nat.le_of_ble_eq_true rfl)⟩ dX5_mostUrgent_77
noncomputable def f_X5_mostUrgent_10 (M : mm_M) (v0 : Option Nat) (v1 : Int32) (v2 : Option Nat) (v3 : Int32) (v4 : Int32) (v5 : Int32) : Option ((Int32 × Int32 × Int32) ⊕ (Int32)) :=
  (mm_fR M v0 6 0).bind fun x13 =>
  (mm_ln M x13).bind fun x16 =>
  if x16 ≤ v5 then mm_mp (f_X5_mostUrgent_76 M v3) else f_X5_mostUrgent_20 M v0 v1 v2 v3 v4 v5
set_option maxRecDepth 20000 in
theorem w_X5_mostUrgent_10 {g : mm_c} (C : mm_ok g cX5_mostUrgent "LessonCards$Hand" (some .int) "mostUrgent" 8 3 65 0 0) {M : mm_M} {v0 : Option Nat} {v1 : Int32} {v2 : Option Nat} {v3 : Int32} {v4 : Int32} {v5 : Int32} {res : (Int32 × Int32 × Int32) ⊕ (Int32)} (hf : f_X5_mostUrgent_10 M v0 v1 v2 v3 v4 v5 = some res) (ko : (mm_o (h_X5_mostUrgent_10 g M v0 v1 v2) (fun z => mm_q g 0 0 (some (mm_i z)) M)) res) : mm_X g 0 0 M 10 [(0, mm_r v0), (1, mm_i v1), (2, mm_r v2), (3, mm_i v3), (4, mm_i v4), (5, mm_i v5)] [] := by
  unfold f_X5_mostUrgent_10 at hf
  refine xr_iload 12 5 C dX5_mostUrgent_10 rfl rfl ?_
  refine xr_aload_n 13 0 C dX5_mostUrgent_12 rfl rfl rfl ?_
  obtain ⟨x13, h13, hf⟩ := mm_bd_e hf
  refine xr_getR 16 C cf_X5_11 rfl h13 dX5_mostUrgent_13 rfl ?_
  obtain ⟨x16, h16, hf⟩ := mm_bd_e hf
  refine xr_alen 17 C h16 dX5_mostUrgent_16 rfl ?_
  refine xr_icmp_ge 76 20 C dX5_mostUrgent_17 (by decide) rfl (fun hc => ?_) (fun hc => ?_)
  · replace hf := (if_pos hc).symm.trans hf
    refine xr_sub [3] (lv2 := [(3, mm_i v3)]) rfl ?_
    obtain ⟨z, hf2, rfl⟩ := mm_mp_e hf
    clear hf
    have hf := hf2
    clear hf2
    exact w_X5_mostUrgent_76 C hf ko
  · replace hf := (if_neg hc).symm.trans hf
    exact w_X5_mostUrgent_20 C hf ko
noncomputable def f_X5_mostUrgent_10w (M : mm_M) (v0 : Option Nat) (v1 : Int32) (v2 : Option Nat) (v3 : Int32) (v4 : Int32) (v5 : Int32) : Option (Int32) := mm_w (fun x => f_X5_mostUrgent_10 M v0 v1 v2 x.1 x.2.1 x.2.2) (v3, v4, v5)
theorem l_X5_mostUrgent_10 {g : mm_c} (C : mm_ok g cX5_mostUrgent "LessonCards$Hand" (some .int) "mostUrgent" 8 3 65 0 0) {M : mm_M} {v0 : Option Nat} {v1 : Int32} {v2 : Option Nat} {v3 : Int32} {v4 : Int32} {v5 : Int32} {res : Int32} (hf : f_X5_mostUrgent_10w M v0 v1 v2 v3 v4 v5 = some res) (ko : (fun z => mm_q g 0 0 (some (mm_i z)) M) res) : mm_X g 0 0 M 10 [(0, mm_r v0), (1, mm_i v1), (2, mm_r v2), (3, mm_i v3), (4, mm_i v4), (5, mm_i v5)] [] :=
  mm_w_W (body := fun x => f_X5_mostUrgent_10 M v0 v1 v2 x.1 x.2.1 x.2.2) (Wh := h_X5_mostUrgent_10 g M v0 v1 v2) (ok := (fun z => mm_q g 0 0 (some (mm_i z)) M)) (x := (v3, v4, v5)) (fun x r hb ho => w_X5_mostUrgent_10 C hb ho) hf ko
noncomputable def f_X5_mostUrgent_0 (M : mm_M) (v0 : Option Nat) (v1 : Int32) (v2 : Option Nat) : Option (Int32) :=
  f_X5_mostUrgent_10w M v0 v1 v2 (-1) 1000 0
set_option maxRecDepth 20000 in
theorem w_X5_mostUrgent_0 {g : mm_c} (C : mm_ok g cX5_mostUrgent "LessonCards$Hand" (some .int) "mostUrgent" 8 3 65 0 0) {M : mm_M} {v0 : Option Nat} {v1 : Int32} {v2 : Option Nat} {res : Int32} (hf : f_X5_mostUrgent_0 M v0 v1 v2 = some res) (ko : (fun z => mm_q g 0 0 (some (mm_i z)) M) res) : mm_X g 0 0 M 0 [(0, mm_r v0), (1, mm_i v1), (2, mm_r v2)] [] := by
  unfold f_X5_mostUrgent_0 at hf
  refine xr_iconst 1 C (v := (-1)) dX5_mostUrgent_0 (by decide) rfl ?_
  refine xr_istore_n 2 C dX5_mostUrgent_1 rfl (by decide) rfl [(3, mm_i (-1)), (0, mm_r v0), (1, mm_i v1), (2, mm_r v2)] rfl ?_
  refine xr_sipush 5 C (v := 1000) dX5_mostUrgent_2 (by decide) rfl ?_
  refine xr_istore 7 C dX5_mostUrgent_5 (by decide) rfl [(4, mm_i 1000), (3, mm_i (-1)), (0, mm_r v0), (1, mm_i v1), (2, mm_r v2)] rfl ?_
  refine xr_iconst 8 C (v := 0) dX5_mostUrgent_7 (by decide) rfl ?_
  refine xr_istore 10 C dX5_mostUrgent_8 (by decide) rfl [(5, mm_i 0), (4, mm_i 1000), (3, mm_i (-1)), (0, mm_r v0), (1, mm_i v1), (2, mm_r v2)] rfl ?_
  refine xr_sub [3, 4, 5, 2, 1, 0] (lv2 := [(0, mm_r v0), (1, mm_i v1), (2, mm_r v2), (3, mm_i (-1)), (4, mm_i 1000), (5, mm_i 0)]) rfl ?_
  exact l_X5_mostUrgent_10 C hf ko
noncomputable def f_X5_mostUrgent (M : mm_M) (v0 : Option Nat) (v1 : Int32) (v2 : Option Nat) : Option (Int32) := f_X5_mostUrgent_0 M v0 v1 v2
theorem c_X5_mostUrgent (l : Launch) (G : va_G) (cy : Nat → ClassId) {M : mm_M} {v0 : Option Nat} {v1 : Int32} {v2 : Option Nat} {r : Int32} (hf : f_X5_mostUrgent M v0 v1 v2 = some r) : mm_Met l yX5_mostUrgent cX5_mostUrgent 8 (some .int) 3 65 0 0 G cy [mm_r v0, mm_i v1, mm_r v2] M (some (mm_i r)) M :=
  mm_enter (by decide) (Nat.le_of_ble_eq_true rfl) (fun p e R s m args below meth c Q C hq => xr_sub [0, 1, 2] (lv2 := [(0, mm_r v0), (1, mm_i v1), (2, mm_r v2)]) rfl (w_X5_mostUrgent_0 C hf hq))
def h_X5_firstFresh_2 (g : mm_c) (M : mm_M) (v0 : Option Nat) : Int32 → Prop := fun x => mm_X g 0 0 M 2 [(0, mm_r v0), (1, mm_i x)] []
noncomputable def f_X5_firstFresh_35 (M : mm_M) (v1 : Int32) : Option (Int32) :=
  some v1
set_option maxRecDepth 20000 in
theorem w_X5_firstFresh_35 {g : mm_c} (C : mm_ok g cX5_firstFresh "LessonCards$Hand" (some .int) "firstFresh" 2 1 20 0 0) {M : mm_M} {v1 : Int32} {res : Int32} (hf : f_X5_firstFresh_35 M v1 = some res) (ko : (fun z => mm_q g 0 0 (some (mm_i z)) M) res) : mm_X g 0 0 M 35 [(1, mm_i v1)] [] := by
  unfold f_X5_firstFresh_35 at hf
  refine xr_iload_n 36 0 C dX5_firstFresh_35 rfl rfl rfl ?_
  obtain rfl := Option.some.inj hf
  exact xr_iret C ko ⟨(Nat.le_of_ble_eq_true rfl), (Nat.le_of_ble_eq_true rfl)⟩ dX5_firstFresh_36
noncomputable def f_X5_firstFresh_37 (M : mm_M) (v0 : Option Nat) (v1 : Int32) : Option (Int32 ⊕ (Int32)) :=
  some (.inl (v1 + 1))
set_option maxRecDepth 20000 in
theorem w_X5_firstFresh_37 {g : mm_c} (C : mm_ok g cX5_firstFresh "LessonCards$Hand" (some .int) "firstFresh" 2 1 20 0 0) {M : mm_M} {v0 : Option Nat} {v1 : Int32} {res : Int32 ⊕ (Int32)} (hf : f_X5_firstFresh_37 M v0 v1 = some res) (ko : (mm_o (h_X5_firstFresh_2 g M v0) (fun z => mm_q g 0 0 (some (mm_i z)) M)) res) : mm_X g 0 0 M 37 [(0, mm_r v0), (1, mm_i v1)] [] := by
  unfold f_X5_firstFresh_37 at hf
  refine xr_iinc 40 1 C dX5_firstFresh_37 rfl (by decide) (v := 1) (by decide) rfl [(1, mm_i (v1 + 1)), (0, mm_r v0)] rfl ?_
  refine xr_goto 2 C dX5_firstFresh_40 (by decide) ?_
  refine xr_sub [1, 0] (lv2 := [(0, mm_r v0), (1, mm_i (v1 + 1))]) rfl ?_
  obtain rfl := Option.some.inj hf
  exact ko
noncomputable def f_X5_firstFresh_23 (M : mm_M) (v0 : Option Nat) (v1 : Int32) : Option (Int32 ⊕ (Int32)) :=
  (mm_fR M v0 6 0).bind fun x24 =>
  (mm_aR M x24 16 v1).bind fun x28 =>
  (mm_fI M x28 9 5).bind fun x29 =>
  if x29 = 0 then mm_mp (f_X5_firstFresh_35 M v1) else f_X5_firstFresh_37 M v0 v1
set_option maxRecDepth 20000 in
theorem w_X5_firstFresh_23 {g : mm_c} (C : mm_ok g cX5_firstFresh "LessonCards$Hand" (some .int) "firstFresh" 2 1 20 0 0) {M : mm_M} {v0 : Option Nat} {v1 : Int32} {res : Int32 ⊕ (Int32)} (hf : f_X5_firstFresh_23 M v0 v1 = some res) (ko : (mm_o (h_X5_firstFresh_2 g M v0) (fun z => mm_q g 0 0 (some (mm_i z)) M)) res) : mm_X g 0 0 M 23 [(0, mm_r v0), (1, mm_i v1)] [] := by
  unfold f_X5_firstFresh_23 at hf
  refine xr_aload_n 24 0 C dX5_firstFresh_23 rfl rfl rfl ?_
  obtain ⟨x24, h24, hf⟩ := mm_bd_e hf
  refine xr_getR 27 C cf_X5_11 rfl h24 dX5_firstFresh_24 rfl ?_
  refine xr_iload_n 28 1 C dX5_firstFresh_27 rfl rfl rfl ?_
  obtain ⟨x28, h28, hf⟩ := mm_bd_e hf
  refine xr_aldR 29 C 16 (by decide) h28 dX5_firstFresh_28 rfl ?_
  obtain ⟨x29, h29, hf⟩ := mm_bd_e hf
  refine xr_getI 32 C cf_X5_26 rfl h29 dX5_firstFresh_29 rfl ?_
  refine xr_if_ne 37 35 C dX5_firstFresh_32 (by decide) rfl (fun hc => ?_) (fun hc => ?_)
  · replace hf := (if_neg hc).symm.trans hf
    exact w_X5_firstFresh_37 C hf ko
  · replace hf := (if_pos hc).symm.trans hf
    refine xr_sub [1] (lv2 := [(1, mm_i v1)]) rfl ?_
    obtain ⟨z, hf2, rfl⟩ := mm_mp_e hf
    clear hf
    have hf := hf2
    clear hf2
    exact w_X5_firstFresh_35 C hf ko
noncomputable def f_X5_firstFresh_11 (M : mm_M) (v0 : Option Nat) (v1 : Int32) : Option (Int32 ⊕ (Int32)) :=
  (mm_fR M v0 6 0).bind fun x12 =>
  (mm_aR M x12 16 v1).bind fun x16 =>
  (mm_rc M x16 9).bind fun u17 =>
  (f_X8_isFresh M x16).bind fun x17 =>
  if x17 = 0 then f_X5_firstFresh_37 M v0 v1 else f_X5_firstFresh_23 M v0 v1
set_option maxRecDepth 20000 in
theorem w_X5_firstFresh_11 {g : mm_c} (C : mm_ok g cX5_firstFresh "LessonCards$Hand" (some .int) "firstFresh" 2 1 20 0 0) {M : mm_M} {v0 : Option Nat} {v1 : Int32} {res : Int32 ⊕ (Int32)} (hf : f_X5_firstFresh_11 M v0 v1 = some res) (ko : (mm_o (h_X5_firstFresh_2 g M v0) (fun z => mm_q g 0 0 (some (mm_i z)) M)) res) : mm_X g 0 0 M 11 [(0, mm_r v0), (1, mm_i v1)] [] := by
  unfold f_X5_firstFresh_11 at hf
  refine xr_aload_n 12 0 C dX5_firstFresh_11 rfl rfl rfl ?_
  obtain ⟨x12, h12, hf⟩ := mm_bd_e hf
  refine xr_getR 15 C cf_X5_11 rfl h12 dX5_firstFresh_12 rfl ?_
  refine xr_iload_n 16 1 C dX5_firstFresh_15 rfl rfl rfl ?_
  obtain ⟨x16, h16, hf⟩ := mm_bd_e hf
  refine xr_aldR 17 C 16 (by decide) h16 dX5_firstFresh_16 rfl ?_
  obtain ⟨u17, g17, hf⟩ := mm_bd_e hf
  obtain ⟨x17, h17, hf⟩ := mm_bd_e hf
  refine xr_callV 20 C [] cm_X5_55 (fun l G cy => c_X8_isFresh l G cy h17) g17 rfl rfl ⟨⟨Nat.le_of_ble_eq_true rfl, Nat.le_of_ble_eq_true rfl⟩, (Nat.le_of_ble_eq_true rfl), (Nat.le_of_ble_eq_true rfl)⟩ (Nat.le_of_ble_eq_true rfl) dX5_firstFresh_17 rfl ?_
  refine xr_if_eq 37 23 C dX5_firstFresh_20 (by decide) rfl (fun hc => ?_) (fun hc => ?_)
  · replace hf := (if_pos hc).symm.trans hf
    exact w_X5_firstFresh_37 C hf ko
  · replace hf := (if_neg hc).symm.trans hf
    exact w_X5_firstFresh_23 C hf ko
noncomputable def f_X5_firstFresh_43 (M : mm_M) : Option (Int32) :=
  some (-1)
set_option maxRecDepth 20000 in
theorem w_X5_firstFresh_43 {g : mm_c} (C : mm_ok g cX5_firstFresh "LessonCards$Hand" (some .int) "firstFresh" 2 1 20 0 0) {M : mm_M} {res : Int32} (hf : f_X5_firstFresh_43 M = some res) (ko : (fun z => mm_q g 0 0 (some (mm_i z)) M) res) : mm_X g 0 0 M 43 [] [] := by
  unfold f_X5_firstFresh_43 at hf
  refine xr_iconst 44 C (v := (-1)) dX5_firstFresh_43 (by decide) rfl ?_
  obtain rfl := Option.some.inj hf
  exact xr_iret C ko ⟨(Nat.le_of_ble_eq_true rfl), (Nat.le_of_ble_eq_true rfl)⟩ dX5_firstFresh_44
noncomputable def f_X5_firstFresh_2 (M : mm_M) (v0 : Option Nat) (v1 : Int32) : Option (Int32 ⊕ (Int32)) :=
  (mm_fR M v0 6 0).bind fun x4 =>
  (mm_ln M x4).bind fun x7 =>
  if x7 ≤ v1 then mm_mp (f_X5_firstFresh_43 M) else f_X5_firstFresh_11 M v0 v1
set_option maxRecDepth 20000 in
theorem w_X5_firstFresh_2 {g : mm_c} (C : mm_ok g cX5_firstFresh "LessonCards$Hand" (some .int) "firstFresh" 2 1 20 0 0) {M : mm_M} {v0 : Option Nat} {v1 : Int32} {res : Int32 ⊕ (Int32)} (hf : f_X5_firstFresh_2 M v0 v1 = some res) (ko : (mm_o (h_X5_firstFresh_2 g M v0) (fun z => mm_q g 0 0 (some (mm_i z)) M)) res) : mm_X g 0 0 M 2 [(0, mm_r v0), (1, mm_i v1)] [] := by
  unfold f_X5_firstFresh_2 at hf
  refine xr_iload_n 3 1 C dX5_firstFresh_2 rfl rfl rfl ?_
  refine xr_aload_n 4 0 C dX5_firstFresh_3 rfl rfl rfl ?_
  obtain ⟨x4, h4, hf⟩ := mm_bd_e hf
  refine xr_getR 7 C cf_X5_11 rfl h4 dX5_firstFresh_4 rfl ?_
  obtain ⟨x7, h7, hf⟩ := mm_bd_e hf
  refine xr_alen 8 C h7 dX5_firstFresh_7 rfl ?_
  refine xr_icmp_ge 43 11 C dX5_firstFresh_8 (by decide) rfl (fun hc => ?_) (fun hc => ?_)
  · replace hf := (if_pos hc).symm.trans hf
    refine xr_sub [] (lv2 := []) rfl ?_
    obtain ⟨z, hf2, rfl⟩ := mm_mp_e hf
    clear hf
    have hf := hf2
    clear hf2
    exact w_X5_firstFresh_43 C hf ko
  · replace hf := (if_neg hc).symm.trans hf
    exact w_X5_firstFresh_11 C hf ko
noncomputable def f_X5_firstFresh_2w (M : mm_M) (v0 : Option Nat) (v1 : Int32) : Option (Int32) := mm_w (fun x => f_X5_firstFresh_2 M v0 x) v1
theorem l_X5_firstFresh_2 {g : mm_c} (C : mm_ok g cX5_firstFresh "LessonCards$Hand" (some .int) "firstFresh" 2 1 20 0 0) {M : mm_M} {v0 : Option Nat} {v1 : Int32} {res : Int32} (hf : f_X5_firstFresh_2w M v0 v1 = some res) (ko : (fun z => mm_q g 0 0 (some (mm_i z)) M) res) : mm_X g 0 0 M 2 [(0, mm_r v0), (1, mm_i v1)] [] :=
  mm_w_W (body := fun x => f_X5_firstFresh_2 M v0 x) (Wh := h_X5_firstFresh_2 g M v0) (ok := (fun z => mm_q g 0 0 (some (mm_i z)) M)) (x := v1) (fun x r hb ho => w_X5_firstFresh_2 C hb ho) hf ko
noncomputable def f_X5_firstFresh_0 (M : mm_M) (v0 : Option Nat) : Option (Int32) :=
  f_X5_firstFresh_2w M v0 0
set_option maxRecDepth 20000 in
theorem w_X5_firstFresh_0 {g : mm_c} (C : mm_ok g cX5_firstFresh "LessonCards$Hand" (some .int) "firstFresh" 2 1 20 0 0) {M : mm_M} {v0 : Option Nat} {res : Int32} (hf : f_X5_firstFresh_0 M v0 = some res) (ko : (fun z => mm_q g 0 0 (some (mm_i z)) M) res) : mm_X g 0 0 M 0 [(0, mm_r v0)] [] := by
  unfold f_X5_firstFresh_0 at hf
  refine xr_iconst 1 C (v := 0) dX5_firstFresh_0 (by decide) rfl ?_
  refine xr_istore_n 2 C dX5_firstFresh_1 rfl (by decide) rfl [(1, mm_i 0), (0, mm_r v0)] rfl ?_
  refine xr_sub [1, 0] (lv2 := [(0, mm_r v0), (1, mm_i 0)]) rfl ?_
  exact l_X5_firstFresh_2 C hf ko
noncomputable def f_X5_firstFresh (M : mm_M) (v0 : Option Nat) : Option (Int32) := f_X5_firstFresh_0 M v0
theorem c_X5_firstFresh (l : Launch) (G : va_G) (cy : Nat → ClassId) {M : mm_M} {v0 : Option Nat} {r : Int32} (hf : f_X5_firstFresh M v0 = some r) : mm_Met l yX5_firstFresh cX5_firstFresh 2 (some .int) 1 20 0 0 G cy [mm_r v0] M (some (mm_i r)) M :=
  mm_enter (by decide) (Nat.le_of_ble_eq_true rfl) (fun p e R s m args below meth c Q C hq => xr_sub [0] (lv2 := [(0, mm_r v0)]) rfl (w_X5_firstFresh_0 C hf hq))
noncomputable def f_X6_init_0 (M : mm_M) (v0 : Nat) : Option (mm_M) :=
  mm_le (mm_nw M (0, 0)) fun M5 =>
  (f_Jx4a65c_init_da8c8 M5 (mm_n M)).bind fun M9 =>
  (mm_pR M9 (some v0) 7 0 (some (mm_n M))).bind fun M12 =>
  (mm_na M12 12 120 120).bind fun M18 =>
  (mm_pR M18 (some v0) 7 1 (some (mm_n M12))).bind fun M20 =>
  some M20
set_option maxRecDepth 20000 in
theorem w_X6_init_0 {g : mm_c} (C : mm_ok g cX6_init "LessonCards$Learner" none "<init>" 1 4 80 2 123) {M : mm_M} {v0 : Nat} {res : mm_M} (hf : f_X6_init_0 M v0 = some res) (ko : (fun z => mm_q g 2 123 none z) res) : mm_X g 0 0 M 0 [(0, mm_r (some v0))] [] := by
  unfold f_X6_init_0 at hf
  refine xr_aload_n 1 0 C dX6_init_0 rfl rfl rfl ?_
  refine xr_oinit 4 C wd_138 wd_72 wd_73 ⟨Nat.le_of_ble_eq_true rfl, Nat.le_of_ble_eq_true rfl⟩ (Nat.le_of_ble_eq_true rfl) dX6_init_1 rfl ?_
  refine xr_aload_n 5 0 C dX6_init_4 rfl rfl rfl ?_
  obtain ⟨M5, h5, hf⟩ := mm_le_e hf
  refine xr_new 8 C (ci := 0) (Cn := RJx4a65c) (T := TJx4a65c) (N := 3) (ty := tyJx4a65c) rfl (by decide) in_Jx4a65c tyJx4a65c_ok nf_Jx4a65c wd_139 wd_96 wd_51 dX6_init_5 ⟨(Nat.le_of_ble_eq_true rfl), (Nat.le_of_ble_eq_true rfl)⟩ rfl h5 ?_
  refine xr_dup 9 C dX6_init_8 rfl rfl ?_
  obtain ⟨M9, h9, hf⟩ := mm_bd_e hf
  refine xr_callI 12 C [] cm_X6_11 (fun l G cy => c_Jx4a65c_init_da8c8 l G cy h9) rfl rfl ⟨⟨Nat.le_of_ble_eq_true rfl, Nat.le_of_ble_eq_true rfl⟩, (Nat.le_of_ble_eq_true rfl), (Nat.le_of_ble_eq_true rfl)⟩ (Nat.le_of_ble_eq_true rfl) dX6_init_9 rfl ?_
  obtain ⟨M12, h12, hf⟩ := mm_bd_e hf
  refine xr_putR 15 C cf_X6_12 (fun _ => ⟨rfl, co_7_0⟩) h12 dX6_init_12 rfl ?_
  refine xr_aload_n 16 0 C dX6_init_15 rfl rfl rfl ?_
  refine xr_bipush 18 C (v := 120) dX6_init_16 (by decide) rfl ?_
  obtain ⟨M18, h18, hf⟩ := mm_bd_e hf
  refine xr_newa 20 C (at_ := .int) (lim := 120) (by decide) (by decide) wd_88 h18 dX6_init_18 ⟨(Nat.le_of_ble_eq_true rfl), (Nat.le_of_ble_eq_true rfl)⟩ rfl ?_
  obtain ⟨M20, h20, hf⟩ := mm_bd_e hf
  refine xr_putR 23 C cf_X6_18 (fun _ => ⟨rfl, co_7_1⟩) h20 dX6_init_20 rfl ?_
  obtain rfl := Option.some.inj hf
  exact xr_vret C ko ⟨(Nat.le_of_ble_eq_true rfl), (Nat.le_of_ble_eq_true rfl)⟩ dX6_init_23
noncomputable def f_X6_init (M : mm_M) (v0 : Nat) : Option (mm_M) := f_X6_init_0 M v0
theorem c_X6_init (l : Launch) (G : va_G) (cy : Nat → ClassId) {M : mm_M} {v0 : Nat} {M1 : mm_M} (hf : f_X6_init M v0 = some M1) : mm_Met l yX6_init cX6_init 1 none 4 80 2 123 G cy [mm_r (some v0)] M none M1 :=
  mm_enter (by decide) (Nat.le_of_ble_eq_true rfl) (fun p e R s m args below meth c Q C hq => xr_sub [0] (lv2 := [(0, mm_r (some v0))]) rfl (w_X6_init_0 C hf hq))
noncomputable def f_X6_addCard_0 (M : mm_M) (v0 : Option Nat) (v1 : Int32) : Option (mm_M) :=
  (mm_fR M v0 7 0).bind fun x1 =>
  mm_le (mm_nw M (6, 0)) fun M4 =>
  (f_X5_init M4 (mm_n M) v1).bind fun M9 =>
  (mm_rc M9 x1 0).bind fun u12 =>
  mm_b2 (f_Jx4a65c_add_9ea2d M9 x1 (some (mm_n M))) fun x12 M12 =>
  some M12
set_option maxRecDepth 20000 in
theorem w_X6_addCard_0 {g : mm_c} (C : mm_ok g cX6_addCard "LessonCards$Learner" none "addCard" 2 8 172 7 1033) {M : mm_M} {v0 : Option Nat} {v1 : Int32} {res : mm_M} (hf : f_X6_addCard_0 M v0 v1 = some res) (ko : (fun z => mm_q g 7 1033 none z) res) : mm_X g 0 0 M 0 [(0, mm_r v0), (1, mm_i v1)] [] := by
  unfold f_X6_addCard_0 at hf
  refine xr_aload_n 1 0 C dX6_addCard_0 rfl rfl rfl ?_
  obtain ⟨x1, h1, hf⟩ := mm_bd_e hf
  refine xr_getR 4 C cf_X6_12 rfl h1 dX6_addCard_1 rfl ?_
  obtain ⟨M4, h4, hf⟩ := mm_le_e hf
  refine xr_new 7 C (ci := 6) (Cn := RX5) (T := TX5) (N := 1) (ty := tyX5) rfl (by decide) in_X5 tyX5_ok nf_X5 wd_259 wd_260 wd_56 dX6_addCard_4 ⟨(Nat.le_of_ble_eq_true rfl), (Nat.le_of_ble_eq_true rfl)⟩ rfl h4 ?_
  refine xr_dup 8 C dX6_addCard_7 rfl rfl ?_
  refine xr_iload_n 9 1 C dX6_addCard_8 rfl rfl rfl ?_
  obtain ⟨M9, h9, hf⟩ := mm_bd_e hf
  refine xr_callI 12 C [mm_i v1] cm_X6_24 (fun l G cy => c_X5_init l G cy h9) rfl rfl ⟨⟨Nat.le_of_ble_eq_true rfl, Nat.le_of_ble_eq_true rfl⟩, (Nat.le_of_ble_eq_true rfl), (Nat.le_of_ble_eq_true rfl)⟩ (Nat.le_of_ble_eq_true rfl) dX6_addCard_9 rfl ?_
  obtain ⟨u12, g12, hf⟩ := mm_bd_e hf
  obtain ⟨x12, M12, h12, hf⟩ := mm_b2_e hf
  refine xr_callV 15 C [mm_r (some (mm_n M))] cm_X6_27 (fun l G cy => c_Jx4a65c_add_9ea2d l G cy h12) g12 rfl rfl ⟨⟨Nat.le_of_ble_eq_true rfl, Nat.le_of_ble_eq_true rfl⟩, (Nat.le_of_ble_eq_true rfl), (Nat.le_of_ble_eq_true rfl)⟩ (Nat.le_of_ble_eq_true rfl) dX6_addCard_12 rfl ?_
  refine xr_pop 16 C dX6_addCard_15 rfl rfl ?_
  obtain rfl := Option.some.inj hf
  exact xr_vret C ko ⟨(Nat.le_of_ble_eq_true rfl), (Nat.le_of_ble_eq_true rfl)⟩ dX6_addCard_16
noncomputable def f_X6_addCard (M : mm_M) (v0 : Option Nat) (v1 : Int32) : Option (mm_M) := f_X6_addCard_0 M v0 v1
theorem c_X6_addCard (l : Launch) (G : va_G) (cy : Nat → ClassId) {M : mm_M} {v0 : Option Nat} {v1 : Int32} {M1 : mm_M} (hf : f_X6_addCard M v0 v1 = some M1) : mm_Met l yX6_addCard cX6_addCard 2 none 8 172 7 1033 G cy [mm_r v0, mm_i v1] M none M1 :=
  mm_enter (by decide) (Nat.le_of_ble_eq_true rfl) (fun p e R s m args below meth c Q C hq => xr_sub [0, 1] (lv2 := [(0, mm_r v0), (1, mm_i v1)]) rfl (w_X6_addCard_0 C hf hq))
noncomputable def f_X6_memoryOf_19 (M : mm_M) (s0 : Option Nat) : Option (Option Nat) :=
  some s0
set_option maxRecDepth 20000 in
theorem w_X6_memoryOf_19 {g : mm_c} (C : mm_ok g cX6_memoryOf "LessonCards$Learner" (some (.object "LessonCards$Memory")) "memoryOf" 4 4 85 0 0) {M : mm_M} {s0 : Option Nat} {res : Option Nat} (hf : f_X6_memoryOf_19 M s0 = some res) (ko : (fun z => mm_q g 0 0 (some (mm_r z)) M) res) : mm_X g 0 0 M 19 [] [mm_r s0] := by
  unfold f_X6_memoryOf_19 at hf
  obtain rfl := Option.some.inj hf
  exact xr_aret (by first | exact Or.inl ⟨_, rfl⟩ | exact Or.inr ⟨_, rfl⟩) C ko ⟨(Nat.le_of_ble_eq_true rfl), (Nat.le_of_ble_eq_true rfl)⟩ dX6_memoryOf_19
noncomputable def f_X6_memoryOf_10 (M : mm_M) : Option (Option Nat) :=
  f_X6_memoryOf_19 M none
set_option maxRecDepth 20000 in
theorem w_X6_memoryOf_10 {g : mm_c} (C : mm_ok g cX6_memoryOf "LessonCards$Learner" (some (.object "LessonCards$Memory")) "memoryOf" 4 4 85 0 0) {M : mm_M} {res : Option Nat} (hf : f_X6_memoryOf_10 M = some res) (ko : (fun z => mm_q g 0 0 (some (mm_r z)) M) res) : mm_X g 0 0 M 10 [] [] := by
  unfold f_X6_memoryOf_10 at hf
  refine xr_null 11 C dX6_memoryOf_10 rfl ?_
  refine xr_goto 19 C dX6_memoryOf_11 (by decide) ?_
  exact w_X6_memoryOf_19 C hf ko
noncomputable def f_X6_memoryOf_14 (M : mm_M) (v2 : Int32) (v3 : Option Nat) : Option (Option Nat) :=
  (mm_rc M v3 6).bind fun u16 =>
  (f_X5_memoryAt M v3 v2).bind fun x16 =>
  f_X6_memoryOf_19 M x16
set_option maxRecDepth 20000 in
theorem w_X6_memoryOf_14 {g : mm_c} (C : mm_ok g cX6_memoryOf "LessonCards$Learner" (some (.object "LessonCards$Memory")) "memoryOf" 4 4 85 0 0) {M : mm_M} {v2 : Int32} {v3 : Option Nat} {res : Option Nat} (hf : f_X6_memoryOf_14 M v2 v3 = some res) (ko : (fun z => mm_q g 0 0 (some (mm_r z)) M) res) : mm_X g 0 0 M 14 [(2, mm_i v2), (3, mm_r v3)] [] := by
  unfold f_X6_memoryOf_14 at hf
  refine xr_aload_n 15 1 C dX6_memoryOf_14 rfl rfl rfl ?_
  refine xr_iload_n 16 0 C dX6_memoryOf_15 rfl rfl rfl ?_
  obtain ⟨u16, g16, hf⟩ := mm_bd_e hf
  obtain ⟨x16, h16, hf⟩ := mm_bd_e hf
  refine xr_callV 19 C [mm_i v2] cm_X6_43 (fun l G cy => c_X5_memoryAt l G cy h16) g16 rfl rfl ⟨⟨Nat.le_of_ble_eq_true rfl, Nat.le_of_ble_eq_true rfl⟩, (Nat.le_of_ble_eq_true rfl), (Nat.le_of_ble_eq_true rfl)⟩ (Nat.le_of_ble_eq_true rfl) dX6_memoryOf_16 rfl ?_
  refine xr_sub [] (lv2 := []) rfl ?_
  exact w_X6_memoryOf_19 C hf ko
noncomputable def f_X6_memoryOf_0 (M : mm_M) (v0 : Option Nat) (v1 : Int32) (v2 : Int32) : Option (Option Nat) :=
  (mm_rc M v0 7).bind fun u2 =>
  (f_X6_handAt M v0 v1).bind fun x2 =>
  if x2 = none then f_X6_memoryOf_10 M else f_X6_memoryOf_14 M v2 x2
set_option maxRecDepth 20000 in
theorem w_X6_memoryOf_0 {g : mm_c} (C : mm_ok g cX6_memoryOf "LessonCards$Learner" (some (.object "LessonCards$Memory")) "memoryOf" 4 4 85 0 0) {M : mm_M} {v0 : Option Nat} {v1 : Int32} {v2 : Int32} {res : Option Nat} (hf : f_X6_memoryOf_0 M v0 v1 v2 = some res) (ko : (fun z => mm_q g 0 0 (some (mm_r z)) M) res) : mm_X g 0 0 M 0 [(0, mm_r v0), (1, mm_i v1), (2, mm_i v2)] [] := by
  unfold f_X6_memoryOf_0 at hf
  refine xr_aload_n 1 0 C dX6_memoryOf_0 rfl rfl rfl ?_
  refine xr_iload_n 2 1 C dX6_memoryOf_1 rfl rfl rfl ?_
  obtain ⟨u2, g2, hf⟩ := mm_bd_e hf
  obtain ⟨x2, h2, hf⟩ := mm_bd_e hf
  refine xr_callV 5 C [mm_i v1] cm_X6_39 (fun l G cy => c_X6_handAt l G cy h2) g2 rfl rfl ⟨⟨Nat.le_of_ble_eq_true rfl, Nat.le_of_ble_eq_true rfl⟩, (Nat.le_of_ble_eq_true rfl), (Nat.le_of_ble_eq_true rfl)⟩ (Nat.le_of_ble_eq_true rfl) dX6_memoryOf_2 rfl ?_
  refine xr_astore_n 6 C dX6_memoryOf_5 rfl (by decide) rfl [(3, mm_r x2), (0, mm_r v0), (1, mm_i v1), (2, mm_i v2)] rfl ?_
  refine xr_aload_n 7 0 C dX6_memoryOf_6 rfl rfl rfl ?_
  refine xr_ifnonnull 14 10 C dX6_memoryOf_7 (by decide) rfl (fun hc => ?_) (fun hc => ?_)
  · replace hf := (if_neg hc).symm.trans hf
    refine xr_sub [3, 0] (lv2 := [(2, mm_i v2), (3, mm_r x2)]) rfl ?_
    exact w_X6_memoryOf_14 C hf ko
  · replace hf := (if_pos hc).symm.trans hf
    refine xr_sub [] (lv2 := []) rfl ?_
    exact w_X6_memoryOf_10 C hf ko
noncomputable def f_X6_memoryOf (M : mm_M) (v0 : Option Nat) (v1 : Int32) (v2 : Int32) : Option (Option Nat) := f_X6_memoryOf_0 M v0 v1 v2
theorem c_X6_memoryOf (l : Launch) (G : va_G) (cy : Nat → ClassId) {M : mm_M} {v0 : Option Nat} {v1 : Int32} {v2 : Int32} {r : Option Nat} (hf : f_X6_memoryOf M v0 v1 v2 = some r) : mm_Met l yX6_memoryOf cX6_memoryOf 4 (some (.object "LessonCards$Memory")) 4 85 0 0 G cy [mm_r v0, mm_i v1, mm_i v2] M (some (mm_r r)) M :=
  mm_enter (by decide) (Nat.le_of_ble_eq_true rfl) (fun p e R s m args below meth c Q C hq => xr_sub [0, 1, 2] (lv2 := [(0, mm_r v0), (1, mm_i v1), (2, mm_i v2)]) rfl (w_X6_memoryOf_0 C hf hq))
def h_X6_beginDay_12 (g : mm_c) (v0 : Option Nat) : (mm_M × Int32) → Prop := fun x => mm_X g 0 0 x.1 12 [(0, mm_r v0), (2, mm_i x.2)] []
noncomputable def f_X6_beginDay_23 (M : mm_M) (v0 : Option Nat) (v2 : Int32) : Option ((mm_M × Int32) ⊕ (mm_M)) :=
  (mm_fR M v0 7 0).bind fun x24 =>
  (mm_rc M x24 0).bind fun u28 =>
  (f_Jx4a65c_get_915e3 M x24 v2).bind fun x28 =>
  (mm_cc M x28 6).bind fun u31 =>
  (mm_rc M x28 6).bind fun u34 =>
  (f_X5_forgetToday M x28).bind fun M34 =>
  some (.inl (M34, (v2 + 1)))
set_option maxRecDepth 20000 in
theorem w_X6_beginDay_23 {g : mm_c} (C : mm_ok g cX6_beginDay "LessonCards$Learner" none "beginDay" 3 3 64 0 0) {M : mm_M} {v0 : Option Nat} {v2 : Int32} {res : (mm_M × Int32) ⊕ (mm_M)} (hf : f_X6_beginDay_23 M v0 v2 = some res) (ko : (mm_o (h_X6_beginDay_12 g v0) (fun z => mm_q g 0 0 none z)) res) : mm_X g 0 0 M 23 [(0, mm_r v0), (2, mm_i v2)] [] := by
  unfold f_X6_beginDay_23 at hf
  refine xr_aload_n 24 0 C dX6_beginDay_23 rfl rfl rfl ?_
  obtain ⟨x24, h24, hf⟩ := mm_bd_e hf
  refine xr_getR 27 C cf_X6_12 rfl h24 dX6_beginDay_24 rfl ?_
  refine xr_iload_n 28 1 C dX6_beginDay_27 rfl rfl rfl ?_
  obtain ⟨u28, g28, hf⟩ := mm_bd_e hf
  obtain ⟨x28, h28, hf⟩ := mm_bd_e hf
  refine xr_callV 31 C [mm_i v2] cm_X6_35 (fun l G cy => c_Jx4a65c_get_915e3 l G cy h28) g28 rfl rfl ⟨⟨Nat.le_of_ble_eq_true rfl, Nat.le_of_ble_eq_true rfl⟩, (Nat.le_of_ble_eq_true rfl), (Nat.le_of_ble_eq_true rfl)⟩ (Nat.le_of_ble_eq_true rfl) dX6_beginDay_28 rfl ?_
  obtain ⟨u31, h31, hf⟩ := mm_bd_e hf
  refine xr_cast 34 C (ci := 6) rfl (by decide) wd_259 h31 dX6_beginDay_31 rfl ?_
  obtain ⟨u34, g34, hf⟩ := mm_bd_e hf
  obtain ⟨M34, h34, hf⟩ := mm_bd_e hf
  refine xr_callV 37 C [] cm_X6_54 (fun l G cy => c_X5_forgetToday l G cy h34) g34 rfl rfl ⟨⟨Nat.le_of_ble_eq_true rfl, Nat.le_of_ble_eq_true rfl⟩, (Nat.le_of_ble_eq_true rfl), (Nat.le_of_ble_eq_true rfl)⟩ (Nat.le_of_ble_eq_true rfl) dX6_beginDay_34 rfl ?_
  refine xr_iinc 40 1 C dX6_beginDay_37 rfl (by decide) (v := 1) (by decide) rfl [(2, mm_i (v2 + 1)), (0, mm_r v0)] rfl ?_
  refine xr_goto 12 C dX6_beginDay_40 (by decide) ?_
  refine xr_sub [1, 0] (lv2 := [(0, mm_r v0), (2, mm_i (v2 + 1))]) rfl ?_
  obtain rfl := Option.some.inj hf
  exact ko
noncomputable def f_X6_beginDay_43 (M : mm_M) : Option (mm_M) :=
  some M
set_option maxRecDepth 20000 in
theorem w_X6_beginDay_43 {g : mm_c} (C : mm_ok g cX6_beginDay "LessonCards$Learner" none "beginDay" 3 3 64 0 0) {M : mm_M} {res : mm_M} (hf : f_X6_beginDay_43 M = some res) (ko : (fun z => mm_q g 0 0 none z) res) : mm_X g 0 0 M 43 [] [] := by
  unfold f_X6_beginDay_43 at hf
  obtain rfl := Option.some.inj hf
  exact xr_vret C ko ⟨(Nat.le_of_ble_eq_true rfl), (Nat.le_of_ble_eq_true rfl)⟩ dX6_beginDay_43
noncomputable def f_X6_beginDay_12 (M : mm_M) (v0 : Option Nat) (v2 : Int32) : Option ((mm_M × Int32) ⊕ (mm_M)) :=
  (mm_fR M v0 7 0).bind fun x14 =>
  (mm_rc M x14 0).bind fun u17 =>
  (f_Jx4a65c_size_8abf5 M x14).bind fun x17 =>
  if x17 ≤ v2 then mm_mp (f_X6_beginDay_43 M) else f_X6_beginDay_23 M v0 v2
set_option maxRecDepth 20000 in
theorem w_X6_beginDay_12 {g : mm_c} (C : mm_ok g cX6_beginDay "LessonCards$Learner" none "beginDay" 3 3 64 0 0) {M : mm_M} {v0 : Option Nat} {v2 : Int32} {res : (mm_M × Int32) ⊕ (mm_M)} (hf : f_X6_beginDay_12 M v0 v2 = some res) (ko : (mm_o (h_X6_beginDay_12 g v0) (fun z => mm_q g 0 0 none z)) res) : mm_X g 0 0 M 12 [(0, mm_r v0), (2, mm_i v2)] [] := by
  unfold f_X6_beginDay_12 at hf
  refine xr_iload_n 13 1 C dX6_beginDay_12 rfl rfl rfl ?_
  refine xr_aload_n 14 0 C dX6_beginDay_13 rfl rfl rfl ?_
  obtain ⟨x14, h14, hf⟩ := mm_bd_e hf
  refine xr_getR 17 C cf_X6_12 rfl h14 dX6_beginDay_14 rfl ?_
  obtain ⟨u17, g17, hf⟩ := mm_bd_e hf
  obtain ⟨x17, h17, hf⟩ := mm_bd_e hf
  refine xr_callV 20 C [] cm_X6_31 (fun l G cy => c_Jx4a65c_size_8abf5 l G cy h17) g17 rfl rfl ⟨⟨Nat.le_of_ble_eq_true rfl, Nat.le_of_ble_eq_true rfl⟩, (Nat.le_of_ble_eq_true rfl), (Nat.le_of_ble_eq_true rfl)⟩ (Nat.le_of_ble_eq_true rfl) dX6_beginDay_17 rfl ?_
  refine xr_icmp_ge 43 23 C dX6_beginDay_20 (by decide) rfl (fun hc => ?_) (fun hc => ?_)
  · replace hf := (if_pos hc).symm.trans hf
    refine xr_sub [] (lv2 := []) rfl ?_
    obtain ⟨z, hf2, rfl⟩ := mm_mp_e hf
    clear hf
    have hf := hf2
    clear hf2
    exact w_X6_beginDay_43 C hf ko
  · replace hf := (if_neg hc).symm.trans hf
    exact w_X6_beginDay_23 C hf ko
noncomputable def f_X6_beginDay_12w (M : mm_M) (v0 : Option Nat) (v2 : Int32) : Option (mm_M) := mm_w (fun x => f_X6_beginDay_12 x.1 v0 x.2) (M, v2)
theorem l_X6_beginDay_12 {g : mm_c} (C : mm_ok g cX6_beginDay "LessonCards$Learner" none "beginDay" 3 3 64 0 0) {M : mm_M} {v0 : Option Nat} {v2 : Int32} {res : mm_M} (hf : f_X6_beginDay_12w M v0 v2 = some res) (ko : (fun z => mm_q g 0 0 none z) res) : mm_X g 0 0 M 12 [(0, mm_r v0), (2, mm_i v2)] [] :=
  mm_w_W (body := fun x => f_X6_beginDay_12 x.1 v0 x.2) (Wh := h_X6_beginDay_12 g v0) (ok := (fun z => mm_q g 0 0 none z)) (x := (M, v2)) (fun x r hb ho => w_X6_beginDay_12 C hb ho) hf ko
noncomputable def f_X6_beginDay_0 (M : mm_M) (v0 : Option Nat) (v1 : Int32) : Option (mm_M) :=
  (mm_pI M v0 7 3 v1).bind fun M2 =>
  (mm_pI M2 v0 7 2 0).bind fun M7 =>
  f_X6_beginDay_12w M7 v0 0
set_option maxRecDepth 20000 in
theorem w_X6_beginDay_0 {g : mm_c} (C : mm_ok g cX6_beginDay "LessonCards$Learner" none "beginDay" 3 3 64 0 0) {M : mm_M} {v0 : Option Nat} {v1 : Int32} {res : mm_M} (hf : f_X6_beginDay_0 M v0 v1 = some res) (ko : (fun z => mm_q g 0 0 none z) res) : mm_X g 0 0 M 0 [(0, mm_r v0), (1, mm_i v1)] [] := by
  unfold f_X6_beginDay_0 at hf
  refine xr_aload_n 1 0 C dX6_beginDay_0 rfl rfl rfl ?_
  refine xr_iload_n 2 1 C dX6_beginDay_1 rfl rfl rfl ?_
  obtain ⟨M2, h2, hf⟩ := mm_bd_e hf
  refine xr_putI 5 C cf_X6_47 (fun h => by cases h) h2 dX6_beginDay_2 rfl ?_
  refine xr_aload_n 6 0 C dX6_beginDay_5 rfl rfl rfl ?_
  refine xr_iconst 7 C (v := 0) dX6_beginDay_6 (by decide) rfl ?_
  obtain ⟨M7, h7, hf⟩ := mm_bd_e hf
  refine xr_putI 10 C cf_X6_51 (fun h => by cases h) h7 dX6_beginDay_7 rfl ?_
  refine xr_iconst 11 C (v := 0) dX6_beginDay_10 (by decide) rfl ?_
  refine xr_istore_n 12 C dX6_beginDay_11 rfl (by decide) rfl [(2, mm_i 0), (0, mm_r v0), (1, mm_i v1)] rfl ?_
  refine xr_sub [1, 0] (lv2 := [(0, mm_r v0), (2, mm_i 0)]) rfl ?_
  exact l_X6_beginDay_12 C hf ko
noncomputable def f_X6_beginDay (M : mm_M) (v0 : Option Nat) (v1 : Int32) : Option (mm_M) := f_X6_beginDay_0 M v0 v1
theorem c_X6_beginDay (l : Launch) (G : va_G) (cy : Nat → ClassId) {M : mm_M} {v0 : Option Nat} {v1 : Int32} {M1 : mm_M} (hf : f_X6_beginDay M v0 v1 = some M1) : mm_Met l yX6_beginDay cX6_beginDay 3 none 3 64 0 0 G cy [mm_r v0, mm_i v1] M none M1 :=
  mm_enter (by decide) (Nat.le_of_ble_eq_true rfl) (fun p e R s m args below meth c Q C hq => xr_sub [0, 1] (lv2 := [(0, mm_r v0), (1, mm_i v1)]) rfl (w_X6_beginDay_0 C hf hq))
def h_X6_forgetAll_2 (g : mm_c) (v0 : Option Nat) : (mm_M × Int32) → Prop := fun x => mm_X g 0 0 x.1 2 [(0, mm_r v0), (1, mm_i x.2)] []
noncomputable def f_X6_forgetAll_13 (M : mm_M) (v0 : Option Nat) (v1 : Int32) : Option ((mm_M × Int32) ⊕ (mm_M)) :=
  (mm_fR M v0 7 0).bind fun x14 =>
  (mm_rc M x14 0).bind fun u18 =>
  (f_Jx4a65c_get_915e3 M x14 v1).bind fun x18 =>
  (mm_cc M x18 6).bind fun u21 =>
  (mm_rc M x18 6).bind fun u24 =>
  (f_X5_forgetAll M x18).bind fun M24 =>
  some (.inl (M24, (v1 + 1)))
set_option maxRecDepth 20000 in
theorem w_X6_forgetAll_13 {g : mm_c} (C : mm_ok g cX6_forgetAll "LessonCards$Learner" none "forgetAll" 2 3 64 0 0) {M : mm_M} {v0 : Option Nat} {v1 : Int32} {res : (mm_M × Int32) ⊕ (mm_M)} (hf : f_X6_forgetAll_13 M v0 v1 = some res) (ko : (mm_o (h_X6_forgetAll_2 g v0) (fun z => mm_q g 0 0 none z)) res) : mm_X g 0 0 M 13 [(0, mm_r v0), (1, mm_i v1)] [] := by
  unfold f_X6_forgetAll_13 at hf
  refine xr_aload_n 14 0 C dX6_forgetAll_13 rfl rfl rfl ?_
  obtain ⟨x14, h14, hf⟩ := mm_bd_e hf
  refine xr_getR 17 C cf_X6_12 rfl h14 dX6_forgetAll_14 rfl ?_
  refine xr_iload_n 18 1 C dX6_forgetAll_17 rfl rfl rfl ?_
  obtain ⟨u18, g18, hf⟩ := mm_bd_e hf
  obtain ⟨x18, h18, hf⟩ := mm_bd_e hf
  refine xr_callV 21 C [mm_i v1] cm_X6_35 (fun l G cy => c_Jx4a65c_get_915e3 l G cy h18) g18 rfl rfl ⟨⟨Nat.le_of_ble_eq_true rfl, Nat.le_of_ble_eq_true rfl⟩, (Nat.le_of_ble_eq_true rfl), (Nat.le_of_ble_eq_true rfl)⟩ (Nat.le_of_ble_eq_true rfl) dX6_forgetAll_18 rfl ?_
  obtain ⟨u21, h21, hf⟩ := mm_bd_e hf
  refine xr_cast 24 C (ci := 6) rfl (by decide) wd_259 h21 dX6_forgetAll_21 rfl ?_
  obtain ⟨u24, g24, hf⟩ := mm_bd_e hf
  obtain ⟨M24, h24, hf⟩ := mm_bd_e hf
  refine xr_callV 27 C [] cm_X6_57 (fun l G cy => c_X5_forgetAll l G cy h24) g24 rfl rfl ⟨⟨Nat.le_of_ble_eq_true rfl, Nat.le_of_ble_eq_true rfl⟩, (Nat.le_of_ble_eq_true rfl), (Nat.le_of_ble_eq_true rfl)⟩ (Nat.le_of_ble_eq_true rfl) dX6_forgetAll_24 rfl ?_
  refine xr_iinc 30 1 C dX6_forgetAll_27 rfl (by decide) (v := 1) (by decide) rfl [(1, mm_i (v1 + 1)), (0, mm_r v0)] rfl ?_
  refine xr_goto 2 C dX6_forgetAll_30 (by decide) ?_
  refine xr_sub [1, 0] (lv2 := [(0, mm_r v0), (1, mm_i (v1 + 1))]) rfl ?_
  obtain rfl := Option.some.inj hf
  exact ko
noncomputable def f_X6_forgetAll_33 (M : mm_M) : Option (mm_M) :=
  some M
set_option maxRecDepth 20000 in
theorem w_X6_forgetAll_33 {g : mm_c} (C : mm_ok g cX6_forgetAll "LessonCards$Learner" none "forgetAll" 2 3 64 0 0) {M : mm_M} {res : mm_M} (hf : f_X6_forgetAll_33 M = some res) (ko : (fun z => mm_q g 0 0 none z) res) : mm_X g 0 0 M 33 [] [] := by
  unfold f_X6_forgetAll_33 at hf
  obtain rfl := Option.some.inj hf
  exact xr_vret C ko ⟨(Nat.le_of_ble_eq_true rfl), (Nat.le_of_ble_eq_true rfl)⟩ dX6_forgetAll_33
noncomputable def f_X6_forgetAll_2 (M : mm_M) (v0 : Option Nat) (v1 : Int32) : Option ((mm_M × Int32) ⊕ (mm_M)) :=
  (mm_fR M v0 7 0).bind fun x4 =>
  (mm_rc M x4 0).bind fun u7 =>
  (f_Jx4a65c_size_8abf5 M x4).bind fun x7 =>
  if x7 ≤ v1 then mm_mp (f_X6_forgetAll_33 M) else f_X6_forgetAll_13 M v0 v1
set_option maxRecDepth 20000 in
theorem w_X6_forgetAll_2 {g : mm_c} (C : mm_ok g cX6_forgetAll "LessonCards$Learner" none "forgetAll" 2 3 64 0 0) {M : mm_M} {v0 : Option Nat} {v1 : Int32} {res : (mm_M × Int32) ⊕ (mm_M)} (hf : f_X6_forgetAll_2 M v0 v1 = some res) (ko : (mm_o (h_X6_forgetAll_2 g v0) (fun z => mm_q g 0 0 none z)) res) : mm_X g 0 0 M 2 [(0, mm_r v0), (1, mm_i v1)] [] := by
  unfold f_X6_forgetAll_2 at hf
  refine xr_iload_n 3 1 C dX6_forgetAll_2 rfl rfl rfl ?_
  refine xr_aload_n 4 0 C dX6_forgetAll_3 rfl rfl rfl ?_
  obtain ⟨x4, h4, hf⟩ := mm_bd_e hf
  refine xr_getR 7 C cf_X6_12 rfl h4 dX6_forgetAll_4 rfl ?_
  obtain ⟨u7, g7, hf⟩ := mm_bd_e hf
  obtain ⟨x7, h7, hf⟩ := mm_bd_e hf
  refine xr_callV 10 C [] cm_X6_31 (fun l G cy => c_Jx4a65c_size_8abf5 l G cy h7) g7 rfl rfl ⟨⟨Nat.le_of_ble_eq_true rfl, Nat.le_of_ble_eq_true rfl⟩, (Nat.le_of_ble_eq_true rfl), (Nat.le_of_ble_eq_true rfl)⟩ (Nat.le_of_ble_eq_true rfl) dX6_forgetAll_7 rfl ?_
  refine xr_icmp_ge 33 13 C dX6_forgetAll_10 (by decide) rfl (fun hc => ?_) (fun hc => ?_)
  · replace hf := (if_pos hc).symm.trans hf
    refine xr_sub [] (lv2 := []) rfl ?_
    obtain ⟨z, hf2, rfl⟩ := mm_mp_e hf
    clear hf
    have hf := hf2
    clear hf2
    exact w_X6_forgetAll_33 C hf ko
  · replace hf := (if_neg hc).symm.trans hf
    exact w_X6_forgetAll_13 C hf ko
noncomputable def f_X6_forgetAll_2w (M : mm_M) (v0 : Option Nat) (v1 : Int32) : Option (mm_M) := mm_w (fun x => f_X6_forgetAll_2 x.1 v0 x.2) (M, v1)
theorem l_X6_forgetAll_2 {g : mm_c} (C : mm_ok g cX6_forgetAll "LessonCards$Learner" none "forgetAll" 2 3 64 0 0) {M : mm_M} {v0 : Option Nat} {v1 : Int32} {res : mm_M} (hf : f_X6_forgetAll_2w M v0 v1 = some res) (ko : (fun z => mm_q g 0 0 none z) res) : mm_X g 0 0 M 2 [(0, mm_r v0), (1, mm_i v1)] [] :=
  mm_w_W (body := fun x => f_X6_forgetAll_2 x.1 v0 x.2) (Wh := h_X6_forgetAll_2 g v0) (ok := (fun z => mm_q g 0 0 none z)) (x := (M, v1)) (fun x r hb ho => w_X6_forgetAll_2 C hb ho) hf ko
noncomputable def f_X6_forgetAll_0 (M : mm_M) (v0 : Option Nat) : Option (mm_M) :=
  f_X6_forgetAll_2w M v0 0
set_option maxRecDepth 20000 in
theorem w_X6_forgetAll_0 {g : mm_c} (C : mm_ok g cX6_forgetAll "LessonCards$Learner" none "forgetAll" 2 3 64 0 0) {M : mm_M} {v0 : Option Nat} {res : mm_M} (hf : f_X6_forgetAll_0 M v0 = some res) (ko : (fun z => mm_q g 0 0 none z) res) : mm_X g 0 0 M 0 [(0, mm_r v0)] [] := by
  unfold f_X6_forgetAll_0 at hf
  refine xr_iconst 1 C (v := 0) dX6_forgetAll_0 (by decide) rfl ?_
  refine xr_istore_n 2 C dX6_forgetAll_1 rfl (by decide) rfl [(1, mm_i 0), (0, mm_r v0)] rfl ?_
  refine xr_sub [1, 0] (lv2 := [(0, mm_r v0), (1, mm_i 0)]) rfl ?_
  exact l_X6_forgetAll_2 C hf ko
noncomputable def f_X6_forgetAll (M : mm_M) (v0 : Option Nat) : Option (mm_M) := f_X6_forgetAll_0 M v0
theorem c_X6_forgetAll (l : Launch) (G : va_G) (cy : Nat → ClassId) {M : mm_M} {v0 : Option Nat} {M1 : mm_M} (hf : f_X6_forgetAll M v0 = some M1) : mm_Met l yX6_forgetAll cX6_forgetAll 2 none 3 64 0 0 G cy [mm_r v0] M none M1 :=
  mm_enter (by decide) (Nat.le_of_ble_eq_true rfl) (fun p e R s m args below meth c Q C hq => xr_sub [0] (lv2 := [(0, mm_r v0)]) rfl (w_X6_forgetAll_0 C hf hq))
def h_X6_isLike_2 (g : mm_c) (M : mm_M) (v0 : Option Nat) (v1 : Option Nat) : Int32 → Prop := fun x => mm_X g 0 0 M 2 [(0, mm_r v0), (1, mm_r v1), (2, mm_i x)] []
noncomputable def f_X6_isLike_41 (M : mm_M) : Option (Int32) :=
  some 0
set_option maxRecDepth 20000 in
theorem w_X6_isLike_41 {g : mm_c} (C : mm_ok g cX6_isLike "LessonCards$Learner" (some .boolean) "isLike" 4 4 85 0 0) {M : mm_M} {res : Int32} (hf : f_X6_isLike_41 M = some res) (ko : (fun z => mm_q g 0 0 (some (mm_i z)) M) res) : mm_X g 0 0 M 41 [] [] := by
  unfold f_X6_isLike_41 at hf
  refine xr_iconst 42 C (v := 0) dX6_isLike_41 (by decide) rfl ?_
  obtain rfl := Option.some.inj hf
  exact xr_zret C (by decide) ko ⟨(Nat.le_of_ble_eq_true rfl), (Nat.le_of_ble_eq_true rfl)⟩ dX6_isLike_42
noncomputable def f_X6_isLike_43 (M : mm_M) (v0 : Option Nat) (v1 : Option Nat) (v2 : Int32) : Option (Int32 ⊕ (Int32)) :=
  some (.inl (v2 + 1))
set_option maxRecDepth 20000 in
theorem w_X6_isLike_43 {g : mm_c} (C : mm_ok g cX6_isLike "LessonCards$Learner" (some .boolean) "isLike" 4 4 85 0 0) {M : mm_M} {v0 : Option Nat} {v1 : Option Nat} {v2 : Int32} {res : Int32 ⊕ (Int32)} (hf : f_X6_isLike_43 M v0 v1 v2 = some res) (ko : (mm_o (h_X6_isLike_2 g M v0 v1) (fun z => mm_q g 0 0 (some (mm_i z)) M)) res) : mm_X g 0 0 M 43 [(0, mm_r v0), (1, mm_r v1), (2, mm_i v2)] [] := by
  unfold f_X6_isLike_43 at hf
  refine xr_iinc 46 2 C dX6_isLike_43 rfl (by decide) (v := 1) (by decide) rfl [(2, mm_i (v2 + 1)), (0, mm_r v0), (1, mm_r v1)] rfl ?_
  refine xr_goto 2 C dX6_isLike_46 (by decide) ?_
  refine xr_sub [1, 2, 0] (lv2 := [(0, mm_r v0), (1, mm_r v1), (2, mm_i (v2 + 1))]) rfl ?_
  obtain rfl := Option.some.inj hf
  exact ko
noncomputable def f_X6_isLike_23 (M : mm_M) (v0 : Option Nat) (v1 : Option Nat) (v2 : Int32) (v3 : Option Nat) : Option (Int32 ⊕ (Int32)) :=
  (mm_fR M v0 7 0).bind fun x24 =>
  (mm_rc M x24 0).bind fun u28 =>
  (f_Jx4a65c_get_915e3 M x24 v2).bind fun x28 =>
  (mm_cc M x28 6).bind fun u31 =>
  (mm_rc M x28 6).bind fun u35 =>
  (f_X5_isLike M x28 v3).bind fun x35 =>
  if x35 = 0 then mm_mp (f_X6_isLike_41 M) else f_X6_isLike_43 M v0 v1 v2
set_option maxRecDepth 20000 in
theorem w_X6_isLike_23 {g : mm_c} (C : mm_ok g cX6_isLike "LessonCards$Learner" (some .boolean) "isLike" 4 4 85 0 0) {M : mm_M} {v0 : Option Nat} {v1 : Option Nat} {v2 : Int32} {v3 : Option Nat} {res : Int32 ⊕ (Int32)} (hf : f_X6_isLike_23 M v0 v1 v2 v3 = some res) (ko : (mm_o (h_X6_isLike_2 g M v0 v1) (fun z => mm_q g 0 0 (some (mm_i z)) M)) res) : mm_X g 0 0 M 23 [(0, mm_r v0), (1, mm_r v1), (2, mm_i v2), (3, mm_r v3)] [] := by
  unfold f_X6_isLike_23 at hf
  refine xr_aload_n 24 0 C dX6_isLike_23 rfl rfl rfl ?_
  obtain ⟨x24, h24, hf⟩ := mm_bd_e hf
  refine xr_getR 27 C cf_X6_12 rfl h24 dX6_isLike_24 rfl ?_
  refine xr_iload_n 28 2 C dX6_isLike_27 rfl rfl rfl ?_
  obtain ⟨u28, g28, hf⟩ := mm_bd_e hf
  obtain ⟨x28, h28, hf⟩ := mm_bd_e hf
  refine xr_callV 31 C [mm_i v2] cm_X6_35 (fun l G cy => c_Jx4a65c_get_915e3 l G cy h28) g28 rfl rfl ⟨⟨Nat.le_of_ble_eq_true rfl, Nat.le_of_ble_eq_true rfl⟩, (Nat.le_of_ble_eq_true rfl), (Nat.le_of_ble_eq_true rfl)⟩ (Nat.le_of_ble_eq_true rfl) dX6_isLike_28 rfl ?_
  obtain ⟨u31, h31, hf⟩ := mm_bd_e hf
  refine xr_cast 34 C (ci := 6) rfl (by decide) wd_259 h31 dX6_isLike_31 rfl ?_
  refine xr_aload_n 35 3 C dX6_isLike_34 rfl rfl rfl ?_
  obtain ⟨u35, g35, hf⟩ := mm_bd_e hf
  obtain ⟨x35, h35, hf⟩ := mm_bd_e hf
  refine xr_callV 38 C [mm_r v3] cm_X6_60 (fun l G cy => c_X5_isLike l G cy h35) g35 rfl rfl ⟨⟨Nat.le_of_ble_eq_true rfl, Nat.le_of_ble_eq_true rfl⟩, (Nat.le_of_ble_eq_true rfl), (Nat.le_of_ble_eq_true rfl)⟩ (Nat.le_of_ble_eq_true rfl) dX6_isLike_35 rfl ?_
  refine xr_if_ne 43 41 C dX6_isLike_38 (by decide) rfl (fun hc => ?_) (fun hc => ?_)
  · replace hf := (if_neg hc).symm.trans hf
    refine xr_sub [0, 1, 2] (lv2 := [(0, mm_r v0), (1, mm_r v1), (2, mm_i v2)]) rfl ?_
    exact w_X6_isLike_43 C hf ko
  · replace hf := (if_pos hc).symm.trans hf
    refine xr_sub [] (lv2 := []) rfl ?_
    obtain ⟨z, hf2, rfl⟩ := mm_mp_e hf
    clear hf
    have hf := hf2
    clear hf2
    exact w_X6_isLike_41 C hf ko
noncomputable def f_X6_isLike_13 (M : mm_M) (v0 : Option Nat) (v1 : Option Nat) (v2 : Int32) : Option (Int32 ⊕ (Int32)) :=
  (mm_rc M v1 7).bind fun u15 =>
  (f_X6_handAt M v1 v2).bind fun x15 =>
  if x15 = none then mm_mp (f_X6_isLike_41 M) else f_X6_isLike_23 M v0 v1 v2 x15
set_option maxRecDepth 20000 in
theorem w_X6_isLike_13 {g : mm_c} (C : mm_ok g cX6_isLike "LessonCards$Learner" (some .boolean) "isLike" 4 4 85 0 0) {M : mm_M} {v0 : Option Nat} {v1 : Option Nat} {v2 : Int32} {res : Int32 ⊕ (Int32)} (hf : f_X6_isLike_13 M v0 v1 v2 = some res) (ko : (mm_o (h_X6_isLike_2 g M v0 v1) (fun z => mm_q g 0 0 (some (mm_i z)) M)) res) : mm_X g 0 0 M 13 [(0, mm_r v0), (1, mm_r v1), (2, mm_i v2)] [] := by
  unfold f_X6_isLike_13 at hf
  refine xr_aload_n 14 1 C dX6_isLike_13 rfl rfl rfl ?_
  refine xr_iload_n 15 2 C dX6_isLike_14 rfl rfl rfl ?_
  obtain ⟨u15, g15, hf⟩ := mm_bd_e hf
  obtain ⟨x15, h15, hf⟩ := mm_bd_e hf
  refine xr_callV 18 C [mm_i v2] cm_X6_39 (fun l G cy => c_X6_handAt l G cy h15) g15 rfl rfl ⟨⟨Nat.le_of_ble_eq_true rfl, Nat.le_of_ble_eq_true rfl⟩, (Nat.le_of_ble_eq_true rfl), (Nat.le_of_ble_eq_true rfl)⟩ (Nat.le_of_ble_eq_true rfl) dX6_isLike_15 rfl ?_
  refine xr_astore_n 19 C dX6_isLike_18 rfl (by decide) rfl [(3, mm_r x15), (0, mm_r v0), (1, mm_r v1), (2, mm_i v2)] rfl ?_
  refine xr_aload_n 20 0 C dX6_isLike_19 rfl rfl rfl ?_
  refine xr_ifnull 41 23 C dX6_isLike_20 (by decide) rfl (fun hc => ?_) (fun hc => ?_)
  · replace hf := (if_pos hc).symm.trans hf
    refine xr_sub [] (lv2 := []) rfl ?_
    obtain ⟨z, hf2, rfl⟩ := mm_mp_e hf
    clear hf
    have hf := hf2
    clear hf2
    exact w_X6_isLike_41 C hf ko
  · replace hf := (if_neg hc).symm.trans hf
    refine xr_sub [1, 2, 3, 0] (lv2 := [(0, mm_r v0), (1, mm_r v1), (2, mm_i v2), (3, mm_r x15)]) rfl ?_
    exact w_X6_isLike_23 C hf ko
noncomputable def f_X6_isLike_49 (M : mm_M) : Option (Int32) :=
  some 1
set_option maxRecDepth 20000 in
theorem w_X6_isLike_49 {g : mm_c} (C : mm_ok g cX6_isLike "LessonCards$Learner" (some .boolean) "isLike" 4 4 85 0 0) {M : mm_M} {res : Int32} (hf : f_X6_isLike_49 M = some res) (ko : (fun z => mm_q g 0 0 (some (mm_i z)) M) res) : mm_X g 0 0 M 49 [] [] := by
  unfold f_X6_isLike_49 at hf
  refine xr_iconst 50 C (v := 1) dX6_isLike_49 (by decide) rfl ?_
  obtain rfl := Option.some.inj hf
  exact xr_zret C (by decide) ko ⟨(Nat.le_of_ble_eq_true rfl), (Nat.le_of_ble_eq_true rfl)⟩ dX6_isLike_50
noncomputable def f_X6_isLike_2 (M : mm_M) (v0 : Option Nat) (v1 : Option Nat) (v2 : Int32) : Option (Int32 ⊕ (Int32)) :=
  (mm_fR M v0 7 0).bind fun x4 =>
  (mm_rc M x4 0).bind fun u7 =>
  (f_Jx4a65c_size_8abf5 M x4).bind fun x7 =>
  if x7 ≤ v2 then mm_mp (f_X6_isLike_49 M) else f_X6_isLike_13 M v0 v1 v2
set_option maxRecDepth 20000 in
theorem w_X6_isLike_2 {g : mm_c} (C : mm_ok g cX6_isLike "LessonCards$Learner" (some .boolean) "isLike" 4 4 85 0 0) {M : mm_M} {v0 : Option Nat} {v1 : Option Nat} {v2 : Int32} {res : Int32 ⊕ (Int32)} (hf : f_X6_isLike_2 M v0 v1 v2 = some res) (ko : (mm_o (h_X6_isLike_2 g M v0 v1) (fun z => mm_q g 0 0 (some (mm_i z)) M)) res) : mm_X g 0 0 M 2 [(0, mm_r v0), (1, mm_r v1), (2, mm_i v2)] [] := by
  unfold f_X6_isLike_2 at hf
  refine xr_iload_n 3 2 C dX6_isLike_2 rfl rfl rfl ?_
  refine xr_aload_n 4 0 C dX6_isLike_3 rfl rfl rfl ?_
  obtain ⟨x4, h4, hf⟩ := mm_bd_e hf
  refine xr_getR 7 C cf_X6_12 rfl h4 dX6_isLike_4 rfl ?_
  obtain ⟨u7, g7, hf⟩ := mm_bd_e hf
  obtain ⟨x7, h7, hf⟩ := mm_bd_e hf
  refine xr_callV 10 C [] cm_X6_31 (fun l G cy => c_Jx4a65c_size_8abf5 l G cy h7) g7 rfl rfl ⟨⟨Nat.le_of_ble_eq_true rfl, Nat.le_of_ble_eq_true rfl⟩, (Nat.le_of_ble_eq_true rfl), (Nat.le_of_ble_eq_true rfl)⟩ (Nat.le_of_ble_eq_true rfl) dX6_isLike_7 rfl ?_
  refine xr_icmp_ge 49 13 C dX6_isLike_10 (by decide) rfl (fun hc => ?_) (fun hc => ?_)
  · replace hf := (if_pos hc).symm.trans hf
    refine xr_sub [] (lv2 := []) rfl ?_
    obtain ⟨z, hf2, rfl⟩ := mm_mp_e hf
    clear hf
    have hf := hf2
    clear hf2
    exact w_X6_isLike_49 C hf ko
  · replace hf := (if_neg hc).symm.trans hf
    exact w_X6_isLike_13 C hf ko
noncomputable def f_X6_isLike_2w (M : mm_M) (v0 : Option Nat) (v1 : Option Nat) (v2 : Int32) : Option (Int32) := mm_w (fun x => f_X6_isLike_2 M v0 v1 x) v2
theorem l_X6_isLike_2 {g : mm_c} (C : mm_ok g cX6_isLike "LessonCards$Learner" (some .boolean) "isLike" 4 4 85 0 0) {M : mm_M} {v0 : Option Nat} {v1 : Option Nat} {v2 : Int32} {res : Int32} (hf : f_X6_isLike_2w M v0 v1 v2 = some res) (ko : (fun z => mm_q g 0 0 (some (mm_i z)) M) res) : mm_X g 0 0 M 2 [(0, mm_r v0), (1, mm_r v1), (2, mm_i v2)] [] :=
  mm_w_W (body := fun x => f_X6_isLike_2 M v0 v1 x) (Wh := h_X6_isLike_2 g M v0 v1) (ok := (fun z => mm_q g 0 0 (some (mm_i z)) M)) (x := v2) (fun x r hb ho => w_X6_isLike_2 C hb ho) hf ko
noncomputable def f_X6_isLike_0 (M : mm_M) (v0 : Option Nat) (v1 : Option Nat) : Option (Int32) :=
  f_X6_isLike_2w M v0 v1 0
set_option maxRecDepth 20000 in
theorem w_X6_isLike_0 {g : mm_c} (C : mm_ok g cX6_isLike "LessonCards$Learner" (some .boolean) "isLike" 4 4 85 0 0) {M : mm_M} {v0 : Option Nat} {v1 : Option Nat} {res : Int32} (hf : f_X6_isLike_0 M v0 v1 = some res) (ko : (fun z => mm_q g 0 0 (some (mm_i z)) M) res) : mm_X g 0 0 M 0 [(0, mm_r v0), (1, mm_r v1)] [] := by
  unfold f_X6_isLike_0 at hf
  refine xr_iconst 1 C (v := 0) dX6_isLike_0 (by decide) rfl ?_
  refine xr_istore_n 2 C dX6_isLike_1 rfl (by decide) rfl [(2, mm_i 0), (0, mm_r v0), (1, mm_r v1)] rfl ?_
  refine xr_sub [1, 2, 0] (lv2 := [(0, mm_r v0), (1, mm_r v1), (2, mm_i 0)]) rfl ?_
  exact l_X6_isLike_2 C hf ko
noncomputable def f_X6_isLike (M : mm_M) (v0 : Option Nat) (v1 : Option Nat) : Option (Int32) := f_X6_isLike_0 M v0 v1
theorem c_X6_isLike (l : Launch) (G : va_G) (cy : Nat → ClassId) {M : mm_M} {v0 : Option Nat} {v1 : Option Nat} {r : Int32} (hf : f_X6_isLike M v0 v1 = some r) : mm_Met l yX6_isLike cX6_isLike 4 (some .boolean) 4 85 0 0 G cy [mm_r v0, mm_r v1] M (some (mm_i r)) M :=
  mm_enter (by decide) (Nat.le_of_ble_eq_true rfl) (fun p e R s m args below meth c Q C hq => xr_sub [0, 1] (lv2 := [(0, mm_r v0), (1, mm_r v1)]) rfl (w_X6_isLike_0 C hf hq))
def h_X6_countKnown_4 (g : mm_c) (M : mm_M) (v0 : Option Nat) (v1 : Option Nat) : (Int32 × Int32) → Prop := fun x => mm_X g 0 0 M 4 [(0, mm_r v0), (1, mm_r v1), (2, mm_i x.1), (3, mm_i x.2)] []
noncomputable def f_X6_countKnown_40 (M : mm_M) (v0 : Option Nat) (v1 : Option Nat) (v2 : Int32) (v3 : Int32) : Option ((Int32 × Int32) ⊕ (Int32)) :=
  some (.inl (v2, (v3 + 1)))
set_option maxRecDepth 20000 in
theorem w_X6_countKnown_40 {g : mm_c} (C : mm_ok g cX6_countKnown "LessonCards$Learner" (some .int) "countKnown" 4 4 88 0 0) {M : mm_M} {v0 : Option Nat} {v1 : Option Nat} {v2 : Int32} {v3 : Int32} {res : (Int32 × Int32) ⊕ (Int32)} (hf : f_X6_countKnown_40 M v0 v1 v2 v3 = some res) (ko : (mm_o (h_X6_countKnown_4 g M v0 v1) (fun z => mm_q g 0 0 (some (mm_i z)) M)) res) : mm_X g 0 0 M 40 [(0, mm_r v0), (1, mm_r v1), (2, mm_i v2), (3, mm_i v3)] [] := by
  unfold f_X6_countKnown_40 at hf
  refine xr_iinc 43 3 C dX6_countKnown_40 rfl (by decide) (v := 1) (by decide) rfl [(3, mm_i (v3 + 1)), (0, mm_r v0), (1, mm_r v1), (2, mm_i v2)] rfl ?_
  refine xr_goto 4 C dX6_countKnown_43 (by decide) ?_
  refine xr_sub [1, 2, 3, 0] (lv2 := [(0, mm_r v0), (1, mm_r v1), (2, mm_i v2), (3, mm_i (v3 + 1))]) rfl ?_
  obtain rfl := Option.some.inj hf
  exact ko
noncomputable def f_X6_countKnown_37 (M : mm_M) (v0 : Option Nat) (v1 : Option Nat) (v2 : Int32) (v3 : Int32) : Option ((Int32 × Int32) ⊕ (Int32)) :=
  f_X6_countKnown_40 M v0 v1 (v2 + 1) v3
set_option maxRecDepth 20000 in
theorem w_X6_countKnown_37 {g : mm_c} (C : mm_ok g cX6_countKnown "LessonCards$Learner" (some .int) "countKnown" 4 4 88 0 0) {M : mm_M} {v0 : Option Nat} {v1 : Option Nat} {v2 : Int32} {v3 : Int32} {res : (Int32 × Int32) ⊕ (Int32)} (hf : f_X6_countKnown_37 M v0 v1 v2 v3 = some res) (ko : (mm_o (h_X6_countKnown_4 g M v0 v1) (fun z => mm_q g 0 0 (some (mm_i z)) M)) res) : mm_X g 0 0 M 37 [(0, mm_r v0), (1, mm_r v1), (2, mm_i v2), (3, mm_i v3)] [] := by
  unfold f_X6_countKnown_37 at hf
  refine xr_iinc 40 2 C dX6_countKnown_37 rfl (by decide) (v := 1) (by decide) rfl [(2, mm_i (v2 + 1)), (0, mm_r v0), (1, mm_r v1), (3, mm_i v3)] rfl ?_
  refine xr_sub [1, 2, 0, 3] (lv2 := [(0, mm_r v0), (1, mm_r v1), (2, mm_i (v2 + 1)), (3, mm_i v3)]) rfl ?_
  exact w_X6_countKnown_40 C hf ko
noncomputable def f_X6_countKnown_15 (M : mm_M) (v0 : Option Nat) (v1 : Option Nat) (v2 : Int32) (v3 : Int32) : Option ((Int32 × Int32) ⊕ (Int32)) :=
  (mm_fR M v0 7 0).bind fun x16 =>
  (mm_rc M x16 0).bind fun u20 =>
  (f_Jx4a65c_get_915e3 M x16 v3).bind fun x20 =>
  (mm_cc M x20 6).bind fun u23 =>
  (mm_fI M v0 7 3).bind fun x27 =>
  (mm_rc M x20 6).bind fun u31 =>
  (f_X5_isKnown M x20 x27 v1).bind fun x31 =>
  if x31 = 0 then f_X6_countKnown_40 M v0 v1 v2 v3 else f_X6_countKnown_37 M v0 v1 v2 v3
set_option maxRecDepth 20000 in
theorem w_X6_countKnown_15 {g : mm_c} (C : mm_ok g cX6_countKnown "LessonCards$Learner" (some .int) "countKnown" 4 4 88 0 0) {M : mm_M} {v0 : Option Nat} {v1 : Option Nat} {v2 : Int32} {v3 : Int32} {res : (Int32 × Int32) ⊕ (Int32)} (hf : f_X6_countKnown_15 M v0 v1 v2 v3 = some res) (ko : (mm_o (h_X6_countKnown_4 g M v0 v1) (fun z => mm_q g 0 0 (some (mm_i z)) M)) res) : mm_X g 0 0 M 15 [(0, mm_r v0), (1, mm_r v1), (2, mm_i v2), (3, mm_i v3)] [] := by
  unfold f_X6_countKnown_15 at hf
  refine xr_aload_n 16 0 C dX6_countKnown_15 rfl rfl rfl ?_
  obtain ⟨x16, h16, hf⟩ := mm_bd_e hf
  refine xr_getR 19 C cf_X6_12 rfl h16 dX6_countKnown_16 rfl ?_
  refine xr_iload_n 20 3 C dX6_countKnown_19 rfl rfl rfl ?_
  obtain ⟨u20, g20, hf⟩ := mm_bd_e hf
  obtain ⟨x20, h20, hf⟩ := mm_bd_e hf
  refine xr_callV 23 C [mm_i v3] cm_X6_35 (fun l G cy => c_Jx4a65c_get_915e3 l G cy h20) g20 rfl rfl ⟨⟨Nat.le_of_ble_eq_true rfl, Nat.le_of_ble_eq_true rfl⟩, (Nat.le_of_ble_eq_true rfl), (Nat.le_of_ble_eq_true rfl)⟩ (Nat.le_of_ble_eq_true rfl) dX6_countKnown_20 rfl ?_
  obtain ⟨u23, h23, hf⟩ := mm_bd_e hf
  refine xr_cast 26 C (ci := 6) rfl (by decide) wd_259 h23 dX6_countKnown_23 rfl ?_
  refine xr_aload_n 27 0 C dX6_countKnown_26 rfl rfl rfl ?_
  obtain ⟨x27, h27, hf⟩ := mm_bd_e hf
  refine xr_getI 30 C cf_X6_47 rfl h27 dX6_countKnown_27 rfl ?_
  refine xr_aload_n 31 1 C dX6_countKnown_30 rfl rfl rfl ?_
  obtain ⟨u31, g31, hf⟩ := mm_bd_e hf
  obtain ⟨x31, h31, hf⟩ := mm_bd_e hf
  refine xr_callV 34 C [mm_i x27, mm_r v1] cm_X6_64 (fun l G cy => c_X5_isKnown l G cy h31) g31 rfl rfl ⟨⟨Nat.le_of_ble_eq_true rfl, Nat.le_of_ble_eq_true rfl⟩, (Nat.le_of_ble_eq_true rfl), (Nat.le_of_ble_eq_true rfl)⟩ (Nat.le_of_ble_eq_true rfl) dX6_countKnown_31 rfl ?_
  refine xr_if_eq 40 37 C dX6_countKnown_34 (by decide) rfl (fun hc => ?_) (fun hc => ?_)
  · replace hf := (if_pos hc).symm.trans hf
    exact w_X6_countKnown_40 C hf ko
  · replace hf := (if_neg hc).symm.trans hf
    exact w_X6_countKnown_37 C hf ko
noncomputable def f_X6_countKnown_46 (M : mm_M) (v2 : Int32) : Option (Int32) :=
  some v2
set_option maxRecDepth 20000 in
theorem w_X6_countKnown_46 {g : mm_c} (C : mm_ok g cX6_countKnown "LessonCards$Learner" (some .int) "countKnown" 4 4 88 0 0) {M : mm_M} {v2 : Int32} {res : Int32} (hf : f_X6_countKnown_46 M v2 = some res) (ko : (fun z => mm_q g 0 0 (some (mm_i z)) M) res) : mm_X g 0 0 M 46 [(2, mm_i v2)] [] := by
  unfold f_X6_countKnown_46 at hf
  refine xr_iload_n 47 0 C dX6_countKnown_46 rfl rfl rfl ?_
  obtain rfl := Option.some.inj hf
  exact xr_iret C ko ⟨(Nat.le_of_ble_eq_true rfl), (Nat.le_of_ble_eq_true rfl)⟩ dX6_countKnown_47
noncomputable def f_X6_countKnown_4 (M : mm_M) (v0 : Option Nat) (v1 : Option Nat) (v2 : Int32) (v3 : Int32) : Option ((Int32 × Int32) ⊕ (Int32)) :=
  (mm_fR M v0 7 0).bind fun x6 =>
  (mm_rc M x6 0).bind fun u9 =>
  (f_Jx4a65c_size_8abf5 M x6).bind fun x9 =>
  if x9 ≤ v3 then mm_mp (f_X6_countKnown_46 M v2) else f_X6_countKnown_15 M v0 v1 v2 v3
set_option maxRecDepth 20000 in
theorem w_X6_countKnown_4 {g : mm_c} (C : mm_ok g cX6_countKnown "LessonCards$Learner" (some .int) "countKnown" 4 4 88 0 0) {M : mm_M} {v0 : Option Nat} {v1 : Option Nat} {v2 : Int32} {v3 : Int32} {res : (Int32 × Int32) ⊕ (Int32)} (hf : f_X6_countKnown_4 M v0 v1 v2 v3 = some res) (ko : (mm_o (h_X6_countKnown_4 g M v0 v1) (fun z => mm_q g 0 0 (some (mm_i z)) M)) res) : mm_X g 0 0 M 4 [(0, mm_r v0), (1, mm_r v1), (2, mm_i v2), (3, mm_i v3)] [] := by
  unfold f_X6_countKnown_4 at hf
  refine xr_iload_n 5 3 C dX6_countKnown_4 rfl rfl rfl ?_
  refine xr_aload_n 6 0 C dX6_countKnown_5 rfl rfl rfl ?_
  obtain ⟨x6, h6, hf⟩ := mm_bd_e hf
  refine xr_getR 9 C cf_X6_12 rfl h6 dX6_countKnown_6 rfl ?_
  obtain ⟨u9, g9, hf⟩ := mm_bd_e hf
  obtain ⟨x9, h9, hf⟩ := mm_bd_e hf
  refine xr_callV 12 C [] cm_X6_31 (fun l G cy => c_Jx4a65c_size_8abf5 l G cy h9) g9 rfl rfl ⟨⟨Nat.le_of_ble_eq_true rfl, Nat.le_of_ble_eq_true rfl⟩, (Nat.le_of_ble_eq_true rfl), (Nat.le_of_ble_eq_true rfl)⟩ (Nat.le_of_ble_eq_true rfl) dX6_countKnown_9 rfl ?_
  refine xr_icmp_ge 46 15 C dX6_countKnown_12 (by decide) rfl (fun hc => ?_) (fun hc => ?_)
  · replace hf := (if_pos hc).symm.trans hf
    refine xr_sub [2] (lv2 := [(2, mm_i v2)]) rfl ?_
    obtain ⟨z, hf2, rfl⟩ := mm_mp_e hf
    clear hf
    have hf := hf2
    clear hf2
    exact w_X6_countKnown_46 C hf ko
  · replace hf := (if_neg hc).symm.trans hf
    exact w_X6_countKnown_15 C hf ko
noncomputable def f_X6_countKnown_4w (M : mm_M) (v0 : Option Nat) (v1 : Option Nat) (v2 : Int32) (v3 : Int32) : Option (Int32) := mm_w (fun x => f_X6_countKnown_4 M v0 v1 x.1 x.2) (v2, v3)
theorem l_X6_countKnown_4 {g : mm_c} (C : mm_ok g cX6_countKnown "LessonCards$Learner" (some .int) "countKnown" 4 4 88 0 0) {M : mm_M} {v0 : Option Nat} {v1 : Option Nat} {v2 : Int32} {v3 : Int32} {res : Int32} (hf : f_X6_countKnown_4w M v0 v1 v2 v3 = some res) (ko : (fun z => mm_q g 0 0 (some (mm_i z)) M) res) : mm_X g 0 0 M 4 [(0, mm_r v0), (1, mm_r v1), (2, mm_i v2), (3, mm_i v3)] [] :=
  mm_w_W (body := fun x => f_X6_countKnown_4 M v0 v1 x.1 x.2) (Wh := h_X6_countKnown_4 g M v0 v1) (ok := (fun z => mm_q g 0 0 (some (mm_i z)) M)) (x := (v2, v3)) (fun x r hb ho => w_X6_countKnown_4 C hb ho) hf ko
noncomputable def f_X6_countKnown_0 (M : mm_M) (v0 : Option Nat) (v1 : Option Nat) : Option (Int32) :=
  f_X6_countKnown_4w M v0 v1 0 0
set_option maxRecDepth 20000 in
theorem w_X6_countKnown_0 {g : mm_c} (C : mm_ok g cX6_countKnown "LessonCards$Learner" (some .int) "countKnown" 4 4 88 0 0) {M : mm_M} {v0 : Option Nat} {v1 : Option Nat} {res : Int32} (hf : f_X6_countKnown_0 M v0 v1 = some res) (ko : (fun z => mm_q g 0 0 (some (mm_i z)) M) res) : mm_X g 0 0 M 0 [(0, mm_r v0), (1, mm_r v1)] [] := by
  unfold f_X6_countKnown_0 at hf
  refine xr_iconst 1 C (v := 0) dX6_countKnown_0 (by decide) rfl ?_
  refine xr_istore_n 2 C dX6_countKnown_1 rfl (by decide) rfl [(2, mm_i 0), (0, mm_r v0), (1, mm_r v1)] rfl ?_
  refine xr_iconst 3 C (v := 0) dX6_countKnown_2 (by decide) rfl ?_
  refine xr_istore_n 4 C dX6_countKnown_3 rfl (by decide) rfl [(3, mm_i 0), (2, mm_i 0), (0, mm_r v0), (1, mm_r v1)] rfl ?_
  refine xr_sub [2, 3, 1, 0] (lv2 := [(0, mm_r v0), (1, mm_r v1), (2, mm_i 0), (3, mm_i 0)]) rfl ?_
  exact l_X6_countKnown_4 C hf ko
noncomputable def f_X6_countKnown (M : mm_M) (v0 : Option Nat) (v1 : Option Nat) : Option (Int32) := f_X6_countKnown_0 M v0 v1
theorem c_X6_countKnown (l : Launch) (G : va_G) (cy : Nat → ClassId) {M : mm_M} {v0 : Option Nat} {v1 : Option Nat} {r : Int32} (hf : f_X6_countKnown M v0 v1 = some r) : mm_Met l yX6_countKnown cX6_countKnown 4 (some .int) 4 88 0 0 G cy [mm_r v0, mm_r v1] M (some (mm_i r)) M :=
  mm_enter (by decide) (Nat.le_of_ble_eq_true rfl) (fun p e R s m args below meth c Q C hq => xr_sub [0, 1] (lv2 := [(0, mm_r v0), (1, mm_r v1)]) rfl (w_X6_countKnown_0 C hf hq))
