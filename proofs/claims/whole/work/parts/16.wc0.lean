noncomputable def f_X0_init_0 (M : mm_M) (v0 : Nat) : Option (mm_M) :=
  (mm_na M 12 4 4).bind fun M6 =>
  (mm_pR M6 (some v0) 1 0 (some (mm_n M))).bind fun M8 =>
  some M8
set_option maxRecDepth 20000 in
theorem w_X0_init_0 {g : mm_c} (C : mm_ok g cX0_init "LessonCards$Card" none "<init>" 1 1 20 1 4) {M : mm_M} {v0 : Nat} {res : mm_M} (hf : f_X0_init_0 M v0 = some res) (ko : (fun z => mm_q g 1 4 none z) res) : mm_X g 0 0 M 0 [(0, mm_r (some v0))] [] := by
  unfold f_X0_init_0 at hf
  refine xr_aload_n 1 0 C dX0_init_0 rfl rfl rfl ?_
  refine xr_oinit 4 C wd_369 wd_72 wd_73 ⟨Nat.le_of_ble_eq_true rfl, Nat.le_of_ble_eq_true rfl⟩ (Nat.le_of_ble_eq_true rfl) dX0_init_1 rfl ?_
  refine xr_aload_n 5 0 C dX0_init_4 rfl rfl rfl ?_
  refine xr_iconst 6 C (v := 4) dX0_init_5 (by decide) rfl ?_
  obtain ⟨M6, h6, hf⟩ := mm_bd_e hf
  refine xr_newa 8 C (at_ := .int) (lim := 4) (by decide) (by decide) wd_88 h6 dX0_init_6 ⟨(Nat.le_of_ble_eq_true rfl), (Nat.le_of_ble_eq_true rfl)⟩ rfl ?_
  obtain ⟨M8, h8, hf⟩ := mm_bd_e hf
  refine xr_putR 11 C cf_X0_9 (fun _ => ⟨rfl, co_1_0⟩) h8 dX0_init_8 rfl ?_
  obtain rfl := Option.some.inj hf
  exact xr_vret C ko ⟨(Nat.le_of_ble_eq_true rfl), (Nat.le_of_ble_eq_true rfl)⟩ dX0_init_11
noncomputable def f_X0_init (M : mm_M) (v0 : Nat) : Option (mm_M) := f_X0_init_0 M v0
theorem c_X0_init (l : Launch) (G : va_G) (cy : Nat → ClassId) {M : mm_M} {v0 : Nat} {M1 : mm_M} (hf : f_X0_init M v0 = some M1) : mm_Met l yX0_init cX0_init 1 none 1 20 1 4 G cy [mm_r (some v0)] M none M1 :=
  mm_enter (by decide) (Nat.le_of_ble_eq_true rfl) (fun p e R s m args below meth c Q C hq => xr_sub [0] (lv2 := [(0, mm_r (some v0))]) rfl (w_X0_init_0 C hf hq))
def h_X0_leansOn_2 (g : mm_c) (M : mm_M) (v0 : Option Nat) (v1 : Int32) : Int32 → Prop := fun x => mm_X g 0 0 M 2 [(0, mm_r v0), (1, mm_i v1), (2, mm_i x)] []
noncomputable def f_X0_leansOn_29 (M : mm_M) : Option (Int32) :=
  some 1
set_option maxRecDepth 20000 in
theorem w_X0_leansOn_29 {g : mm_c} (C : mm_ok g cX0_leansOn "LessonCards$Card" (some .boolean) "leansOn" 3 0 0 0 0) {M : mm_M} {res : Int32} (hf : f_X0_leansOn_29 M = some res) (ko : (fun z => mm_q g 0 0 (some (mm_i z)) M) res) : mm_X g 0 0 M 29 [] [] := by
  unfold f_X0_leansOn_29 at hf
  refine xr_iconst 30 C (v := 1) dX0_leansOn_29 (by decide) rfl ?_
  obtain rfl := Option.some.inj hf
  exact xr_zret C (by decide) ko ⟨(Nat.le_of_ble_eq_true rfl), (Nat.le_of_ble_eq_true rfl)⟩ dX0_leansOn_30
noncomputable def f_X0_leansOn_31 (M : mm_M) (v0 : Option Nat) (v1 : Int32) (v2 : Int32) : Option (Int32 ⊕ (Int32)) :=
  some (.inl (v2 + 1))
set_option maxRecDepth 20000 in
theorem w_X0_leansOn_31 {g : mm_c} (C : mm_ok g cX0_leansOn "LessonCards$Card" (some .boolean) "leansOn" 3 0 0 0 0) {M : mm_M} {v0 : Option Nat} {v1 : Int32} {v2 : Int32} {res : Int32 ⊕ (Int32)} (hf : f_X0_leansOn_31 M v0 v1 v2 = some res) (ko : (mm_o (h_X0_leansOn_2 g M v0 v1) (fun z => mm_q g 0 0 (some (mm_i z)) M)) res) : mm_X g 0 0 M 31 [(0, mm_r v0), (1, mm_i v1), (2, mm_i v2)] [] := by
  unfold f_X0_leansOn_31 at hf
  refine xr_iinc 34 2 C dX0_leansOn_31 rfl (by decide) (v := 1) (by decide) rfl [(2, mm_i (v2 + 1)), (0, mm_r v0), (1, mm_i v1)] rfl ?_
  refine xr_goto 2 C dX0_leansOn_34 (by decide) ?_
  refine xr_sub [1, 2, 0] (lv2 := [(0, mm_r v0), (1, mm_i v1), (2, mm_i (v2 + 1))]) rfl ?_
  obtain rfl := Option.some.inj hf
  exact ko
noncomputable def f_X0_leansOn_19 (M : mm_M) (v0 : Option Nat) (v1 : Int32) (v2 : Int32) : Option (Int32 ⊕ (Int32)) :=
  (mm_fR M v0 1 0).bind fun x20 =>
  (mm_aI M x20 12 v2).bind fun x24 =>
  if x24 = v1 then mm_mp (f_X0_leansOn_29 M) else f_X0_leansOn_31 M v0 v1 v2
set_option maxRecDepth 20000 in
theorem w_X0_leansOn_19 {g : mm_c} (C : mm_ok g cX0_leansOn "LessonCards$Card" (some .boolean) "leansOn" 3 0 0 0 0) {M : mm_M} {v0 : Option Nat} {v1 : Int32} {v2 : Int32} {res : Int32 ⊕ (Int32)} (hf : f_X0_leansOn_19 M v0 v1 v2 = some res) (ko : (mm_o (h_X0_leansOn_2 g M v0 v1) (fun z => mm_q g 0 0 (some (mm_i z)) M)) res) : mm_X g 0 0 M 19 [(0, mm_r v0), (1, mm_i v1), (2, mm_i v2)] [] := by
  unfold f_X0_leansOn_19 at hf
  refine xr_aload_n 20 0 C dX0_leansOn_19 rfl rfl rfl ?_
  obtain ⟨x20, h20, hf⟩ := mm_bd_e hf
  refine xr_getR 23 C cf_X0_9 rfl h20 dX0_leansOn_20 rfl ?_
  refine xr_iload_n 24 2 C dX0_leansOn_23 rfl rfl rfl ?_
  obtain ⟨x24, h24, hf⟩ := mm_bd_e hf
  refine xr_aldI 25 C h24 dX0_leansOn_24 rfl ?_
  refine xr_iload_n 26 1 C dX0_leansOn_25 rfl rfl rfl ?_
  refine xr_icmp_ne 31 29 C dX0_leansOn_26 (by decide) rfl (fun hc => ?_) (fun hc => ?_)
  · replace hf := (if_neg hc).symm.trans hf
    exact w_X0_leansOn_31 C hf ko
  · replace hf := (if_pos hc).symm.trans hf
    refine xr_sub [] (lv2 := []) rfl ?_
    obtain ⟨z, hf2, rfl⟩ := mm_mp_e hf
    clear hf
    have hf := hf2
    clear hf2
    exact w_X0_leansOn_29 C hf ko
noncomputable def f_X0_leansOn_37 (M : mm_M) : Option (Int32) :=
  some 0
set_option maxRecDepth 20000 in
theorem w_X0_leansOn_37 {g : mm_c} (C : mm_ok g cX0_leansOn "LessonCards$Card" (some .boolean) "leansOn" 3 0 0 0 0) {M : mm_M} {res : Int32} (hf : f_X0_leansOn_37 M = some res) (ko : (fun z => mm_q g 0 0 (some (mm_i z)) M) res) : mm_X g 0 0 M 37 [] [] := by
  unfold f_X0_leansOn_37 at hf
  refine xr_iconst 38 C (v := 0) dX0_leansOn_37 (by decide) rfl ?_
  obtain rfl := Option.some.inj hf
  exact xr_zret C (by decide) ko ⟨(Nat.le_of_ble_eq_true rfl), (Nat.le_of_ble_eq_true rfl)⟩ dX0_leansOn_38
noncomputable def f_X0_leansOn_10 (M : mm_M) (v0 : Option Nat) (v1 : Int32) (v2 : Int32) : Option (Int32 ⊕ (Int32)) :=
  (mm_fR M v0 1 0).bind fun x12 =>
  (mm_ln M x12).bind fun x15 =>
  if x15 ≤ v2 then mm_mp (f_X0_leansOn_37 M) else f_X0_leansOn_19 M v0 v1 v2
set_option maxRecDepth 20000 in
theorem w_X0_leansOn_10 {g : mm_c} (C : mm_ok g cX0_leansOn "LessonCards$Card" (some .boolean) "leansOn" 3 0 0 0 0) {M : mm_M} {v0 : Option Nat} {v1 : Int32} {v2 : Int32} {res : Int32 ⊕ (Int32)} (hf : f_X0_leansOn_10 M v0 v1 v2 = some res) (ko : (mm_o (h_X0_leansOn_2 g M v0 v1) (fun z => mm_q g 0 0 (some (mm_i z)) M)) res) : mm_X g 0 0 M 10 [(0, mm_r v0), (1, mm_i v1), (2, mm_i v2)] [] := by
  unfold f_X0_leansOn_10 at hf
  refine xr_iload_n 11 2 C dX0_leansOn_10 rfl rfl rfl ?_
  refine xr_aload_n 12 0 C dX0_leansOn_11 rfl rfl rfl ?_
  obtain ⟨x12, h12, hf⟩ := mm_bd_e hf
  refine xr_getR 15 C cf_X0_9 rfl h12 dX0_leansOn_12 rfl ?_
  obtain ⟨x15, h15, hf⟩ := mm_bd_e hf
  refine xr_alen 16 C h15 dX0_leansOn_15 rfl ?_
  refine xr_icmp_ge 37 19 C dX0_leansOn_16 (by decide) rfl (fun hc => ?_) (fun hc => ?_)
  · replace hf := (if_pos hc).symm.trans hf
    refine xr_sub [] (lv2 := []) rfl ?_
    obtain ⟨z, hf2, rfl⟩ := mm_mp_e hf
    clear hf
    have hf := hf2
    clear hf2
    exact w_X0_leansOn_37 C hf ko
  · replace hf := (if_neg hc).symm.trans hf
    exact w_X0_leansOn_19 C hf ko
noncomputable def f_X0_leansOn_2 (M : mm_M) (v0 : Option Nat) (v1 : Int32) (v2 : Int32) : Option (Int32 ⊕ (Int32)) :=
  (mm_fI M v0 1 1).bind fun x4 =>
  if x4 ≤ v2 then mm_mp (f_X0_leansOn_37 M) else f_X0_leansOn_10 M v0 v1 v2
set_option maxRecDepth 20000 in
theorem w_X0_leansOn_2 {g : mm_c} (C : mm_ok g cX0_leansOn "LessonCards$Card" (some .boolean) "leansOn" 3 0 0 0 0) {M : mm_M} {v0 : Option Nat} {v1 : Int32} {v2 : Int32} {res : Int32 ⊕ (Int32)} (hf : f_X0_leansOn_2 M v0 v1 v2 = some res) (ko : (mm_o (h_X0_leansOn_2 g M v0 v1) (fun z => mm_q g 0 0 (some (mm_i z)) M)) res) : mm_X g 0 0 M 2 [(0, mm_r v0), (1, mm_i v1), (2, mm_i v2)] [] := by
  unfold f_X0_leansOn_2 at hf
  refine xr_iload_n 3 2 C dX0_leansOn_2 rfl rfl rfl ?_
  refine xr_aload_n 4 0 C dX0_leansOn_3 rfl rfl rfl ?_
  obtain ⟨x4, h4, hf⟩ := mm_bd_e hf
  refine xr_getI 7 C cf_X0_15 rfl h4 dX0_leansOn_4 rfl ?_
  refine xr_icmp_ge 37 10 C dX0_leansOn_7 (by decide) rfl (fun hc => ?_) (fun hc => ?_)
  · replace hf := (if_pos hc).symm.trans hf
    refine xr_sub [] (lv2 := []) rfl ?_
    obtain ⟨z, hf2, rfl⟩ := mm_mp_e hf
    clear hf
    have hf := hf2
    clear hf2
    exact w_X0_leansOn_37 C hf ko
  · replace hf := (if_neg hc).symm.trans hf
    exact w_X0_leansOn_10 C hf ko
noncomputable def f_X0_leansOn_2w (M : mm_M) (v0 : Option Nat) (v1 : Int32) (v2 : Int32) : Option (Int32) := mm_w (fun x => f_X0_leansOn_2 M v0 v1 x) v2
theorem l_X0_leansOn_2 {g : mm_c} (C : mm_ok g cX0_leansOn "LessonCards$Card" (some .boolean) "leansOn" 3 0 0 0 0) {M : mm_M} {v0 : Option Nat} {v1 : Int32} {v2 : Int32} {res : Int32} (hf : f_X0_leansOn_2w M v0 v1 v2 = some res) (ko : (fun z => mm_q g 0 0 (some (mm_i z)) M) res) : mm_X g 0 0 M 2 [(0, mm_r v0), (1, mm_i v1), (2, mm_i v2)] [] :=
  mm_w_W (body := fun x => f_X0_leansOn_2 M v0 v1 x) (Wh := h_X0_leansOn_2 g M v0 v1) (ok := (fun z => mm_q g 0 0 (some (mm_i z)) M)) (x := v2) (fun x r hb ho => w_X0_leansOn_2 C hb ho) hf ko
noncomputable def f_X0_leansOn_0 (M : mm_M) (v0 : Option Nat) (v1 : Int32) : Option (Int32) :=
  f_X0_leansOn_2w M v0 v1 0
set_option maxRecDepth 20000 in
theorem w_X0_leansOn_0 {g : mm_c} (C : mm_ok g cX0_leansOn "LessonCards$Card" (some .boolean) "leansOn" 3 0 0 0 0) {M : mm_M} {v0 : Option Nat} {v1 : Int32} {res : Int32} (hf : f_X0_leansOn_0 M v0 v1 = some res) (ko : (fun z => mm_q g 0 0 (some (mm_i z)) M) res) : mm_X g 0 0 M 0 [(0, mm_r v0), (1, mm_i v1)] [] := by
  unfold f_X0_leansOn_0 at hf
  refine xr_iconst 1 C (v := 0) dX0_leansOn_0 (by decide) rfl ?_
  refine xr_istore_n 2 C dX0_leansOn_1 rfl (by decide) rfl [(2, mm_i 0), (0, mm_r v0), (1, mm_i v1)] rfl ?_
  refine xr_sub [1, 2, 0] (lv2 := [(0, mm_r v0), (1, mm_i v1), (2, mm_i 0)]) rfl ?_
  exact l_X0_leansOn_2 C hf ko
noncomputable def f_X0_leansOn (M : mm_M) (v0 : Option Nat) (v1 : Int32) : Option (Int32) := f_X0_leansOn_0 M v0 v1
theorem c_X0_leansOn (l : Launch) (G : va_G) (cy : Nat → ClassId) {M : mm_M} {v0 : Option Nat} {v1 : Int32} {r : Int32} (hf : f_X0_leansOn M v0 v1 = some r) : mm_Met l yX0_leansOn cX0_leansOn 3 (some .boolean) 0 0 0 0 G cy [mm_r v0, mm_i v1] M (some (mm_i r)) M :=
  mm_enter (by decide) (Nat.le_of_ble_eq_true rfl) (fun p e R s m args below meth c Q C hq => xr_sub [0, 1] (lv2 := [(0, mm_r v0), (1, mm_i v1)]) rfl (w_X0_leansOn_0 C hf hq))
noncomputable def f_X0_addLean_12 (M : mm_M) : Option (Int32 × mm_M) :=
  some ((-2), M)
set_option maxRecDepth 20000 in
theorem w_X0_addLean_12 {g : mm_c} (C : mm_ok g cX0_addLean "LessonCards$Card" (some .int) "addLean" 2 0 0 0 0) {M : mm_M} {res : Int32 × mm_M} (hf : f_X0_addLean_12 M = some res) (ko : (fun z => mm_q g 0 0 (some (mm_i z.1)) z.2) res) : mm_X g 0 0 M 12 [] [] := by
  unfold f_X0_addLean_12 at hf
  refine xr_bipush 14 C (v := (-2)) dX0_addLean_12 (by decide) rfl ?_
  obtain rfl := Option.some.inj hf
  exact xr_iret C ko ⟨(Nat.le_of_ble_eq_true rfl), (Nat.le_of_ble_eq_true rfl)⟩ dX0_addLean_14
noncomputable def f_X0_addLean_15 (M : mm_M) (v0 : Option Nat) (v1 : Int32) : Option (Int32 × mm_M) :=
  (mm_fR M v0 1 0).bind fun x16 =>
  (mm_fI M v0 1 1).bind fun x20 =>
  (mm_tI M x16 x20 v1).bind fun M24 =>
  (mm_fI M24 v0 1 1).bind fun x27 =>
  (mm_pI M24 v0 1 1 (x27 + 1)).bind fun M32 =>
  (mm_fI M32 v0 1 1).bind fun x36 =>
  some (x36, M32)
set_option maxRecDepth 20000 in
theorem w_X0_addLean_15 {g : mm_c} (C : mm_ok g cX0_addLean "LessonCards$Card" (some .int) "addLean" 2 0 0 0 0) {M : mm_M} {v0 : Option Nat} {v1 : Int32} {res : Int32 × mm_M} (hf : f_X0_addLean_15 M v0 v1 = some res) (ko : (fun z => mm_q g 0 0 (some (mm_i z.1)) z.2) res) : mm_X g 0 0 M 15 [(0, mm_r v0), (1, mm_i v1)] [] := by
  unfold f_X0_addLean_15 at hf
  refine xr_aload_n 16 0 C dX0_addLean_15 rfl rfl rfl ?_
  obtain ⟨x16, h16, hf⟩ := mm_bd_e hf
  refine xr_getR 19 C cf_X0_9 rfl h16 dX0_addLean_16 rfl ?_
  refine xr_aload_n 20 0 C dX0_addLean_19 rfl rfl rfl ?_
  obtain ⟨x20, h20, hf⟩ := mm_bd_e hf
  refine xr_getI 23 C cf_X0_15 rfl h20 dX0_addLean_20 rfl ?_
  refine xr_iload_n 24 1 C dX0_addLean_23 rfl rfl rfl ?_
  obtain ⟨M24, h24, hf⟩ := mm_bd_e hf
  refine xr_astI 25 C h24 dX0_addLean_24 rfl ?_
  refine xr_aload_n 26 0 C dX0_addLean_25 rfl rfl rfl ?_
  refine xr_dup 27 C dX0_addLean_26 rfl rfl ?_
  obtain ⟨x27, h27, hf⟩ := mm_bd_e hf
  refine xr_getI 30 C cf_X0_15 rfl h27 dX0_addLean_27 rfl ?_
  refine xr_iconst 31 C (v := 1) dX0_addLean_30 (by decide) rfl ?_
  refine xr_iadd 32 C dX0_addLean_31 rfl ?_
  obtain ⟨M32, h32, hf⟩ := mm_bd_e hf
  refine xr_putI 35 C cf_X0_15 (fun h => by cases h) h32 dX0_addLean_32 rfl ?_
  refine xr_aload_n 36 0 C dX0_addLean_35 rfl rfl rfl ?_
  obtain ⟨x36, h36, hf⟩ := mm_bd_e hf
  refine xr_getI 39 C cf_X0_15 rfl h36 dX0_addLean_36 rfl ?_
  obtain rfl := Option.some.inj hf
  exact xr_iret C ko ⟨(Nat.le_of_ble_eq_true rfl), (Nat.le_of_ble_eq_true rfl)⟩ dX0_addLean_39
noncomputable def f_X0_addLean_0 (M : mm_M) (v0 : Option Nat) (v1 : Int32) : Option (Int32 × mm_M) :=
  (mm_fI M v0 1 1).bind fun x1 =>
  (mm_fR M v0 1 0).bind fun x5 =>
  (mm_ln M x5).bind fun x8 =>
  if x1 < x8 then f_X0_addLean_15 M v0 v1 else f_X0_addLean_12 M
set_option maxRecDepth 20000 in
theorem w_X0_addLean_0 {g : mm_c} (C : mm_ok g cX0_addLean "LessonCards$Card" (some .int) "addLean" 2 0 0 0 0) {M : mm_M} {v0 : Option Nat} {v1 : Int32} {res : Int32 × mm_M} (hf : f_X0_addLean_0 M v0 v1 = some res) (ko : (fun z => mm_q g 0 0 (some (mm_i z.1)) z.2) res) : mm_X g 0 0 M 0 [(0, mm_r v0), (1, mm_i v1)] [] := by
  unfold f_X0_addLean_0 at hf
  refine xr_aload_n 1 0 C dX0_addLean_0 rfl rfl rfl ?_
  obtain ⟨x1, h1, hf⟩ := mm_bd_e hf
  refine xr_getI 4 C cf_X0_15 rfl h1 dX0_addLean_1 rfl ?_
  refine xr_aload_n 5 0 C dX0_addLean_4 rfl rfl rfl ?_
  obtain ⟨x5, h5, hf⟩ := mm_bd_e hf
  refine xr_getR 8 C cf_X0_9 rfl h5 dX0_addLean_5 rfl ?_
  obtain ⟨x8, h8, hf⟩ := mm_bd_e hf
  refine xr_alen 9 C h8 dX0_addLean_8 rfl ?_
  refine xr_icmp_lt 15 12 C dX0_addLean_9 (by decide) rfl (fun hc => ?_) (fun hc => ?_)
  · replace hf := (if_pos hc).symm.trans hf
    exact w_X0_addLean_15 C hf ko
  · replace hf := (if_neg hc).symm.trans hf
    refine xr_sub [] (lv2 := []) rfl ?_
    exact w_X0_addLean_12 C hf ko
noncomputable def f_X0_addLean (M : mm_M) (v0 : Option Nat) (v1 : Int32) : Option (Int32 × mm_M) := f_X0_addLean_0 M v0 v1
theorem c_X0_addLean (l : Launch) (G : va_G) (cy : Nat → ClassId) {M : mm_M} {v0 : Option Nat} {v1 : Int32} {r : Int32} {M1 : mm_M} (hf : f_X0_addLean M v0 v1 = some (r, M1)) : mm_Met l yX0_addLean cX0_addLean 2 (some .int) 0 0 0 0 G cy [mm_r v0, mm_i v1] M (some (mm_i r)) M1 :=
  mm_enter (by decide) (Nat.le_of_ble_eq_true rfl) (fun p e R s m args below meth c Q C hq => xr_sub [0, 1] (lv2 := [(0, mm_r v0), (1, mm_i v1)]) rfl (w_X0_addLean_0 C hf hq))
def h_X1_init_21 (g : mm_c) (v0 : Nat) : (mm_M × Int32 × Int32 × Int32) → Prop := fun x => mm_X g 1 400 x.1 21 [(0, mm_r (some v0)), (1, mm_i x.2.1), (2, mm_i x.2.2.1), (3, mm_i x.2.2.2)] []
noncomputable def f_X1_init_47 (M : mm_M) (v0 : Nat) (v1 : Int32) (v2 : Int32) (v3 : Int32) : Option ((mm_M × Int32 × Int32 × Int32) ⊕ (mm_M)) :=
  some (.inl (M, ((v1 * 9934) / 10000), v2, (v3 + 1)))
set_option maxRecDepth 20000 in
theorem w_X1_init_47 {g : mm_c} (C : mm_ok g cX1_init "LessonCards$Curve" none "<init>" 4 1 20 1 400) {M : mm_M} {v0 : Nat} {v1 : Int32} {v2 : Int32} {v3 : Int32} {res : (mm_M × Int32 × Int32 × Int32) ⊕ (mm_M)} (hf : f_X1_init_47 M v0 v1 v2 v3 = some res) (ko : (mm_o (h_X1_init_21 g v0) (fun z => mm_q g 1 400 none z)) res) : mm_X g 1 400 M 47 [(0, mm_r (some v0)), (1, mm_i v1), (2, mm_i v2), (3, mm_i v3)] [] := by
  unfold f_X1_init_47 at hf
  refine xr_iload_n 48 1 C dX1_init_47 rfl rfl rfl ?_
  refine xr_sipush 51 C (v := 9934) dX1_init_48 (by decide) rfl ?_
  refine xr_imul 52 C dX1_init_51 rfl ?_
  refine xr_sipush 55 C (v := 10000) dX1_init_52 (by decide) rfl ?_
  refine xr_idiv 56 C dX1_init_55 (by decide) rfl ?_
  refine xr_istore_n 57 C dX1_init_56 rfl (by decide) rfl [(1, mm_i ((v1 * 9934) / 10000)), (0, mm_r (some v0)), (2, mm_i v2), (3, mm_i v3)] rfl ?_
  refine xr_iinc 60 3 C dX1_init_57 rfl (by decide) (v := 1) (by decide) rfl [(3, mm_i (v3 + 1)), (1, mm_i ((v1 * 9934) / 10000)), (0, mm_r (some v0)), (2, mm_i v2)] rfl ?_
  refine xr_goto 21 C dX1_init_60 (by decide) ?_
  refine xr_sub [2, 1, 3, 0] (lv2 := [(0, mm_r (some v0)), (1, mm_i ((v1 * 9934) / 10000)), (2, mm_i v2), (3, mm_i (v3 + 1))]) rfl ?_
  obtain rfl := Option.some.inj hf
  exact ko
noncomputable def f_X1_init_44 (M : mm_M) (v0 : Nat) (v1 : Int32) (v2 : Int32) (v3 : Int32) : Option ((mm_M × Int32 × Int32 × Int32) ⊕ (mm_M)) :=
  f_X1_init_47 M v0 v1 (v2 + 1) v3
set_option maxRecDepth 20000 in
theorem w_X1_init_44 {g : mm_c} (C : mm_ok g cX1_init "LessonCards$Curve" none "<init>" 4 1 20 1 400) {M : mm_M} {v0 : Nat} {v1 : Int32} {v2 : Int32} {v3 : Int32} {res : (mm_M × Int32 × Int32 × Int32) ⊕ (mm_M)} (hf : f_X1_init_44 M v0 v1 v2 v3 = some res) (ko : (mm_o (h_X1_init_21 g v0) (fun z => mm_q g 1 400 none z)) res) : mm_X g 1 400 M 44 [(0, mm_r (some v0)), (1, mm_i v1), (2, mm_i v2), (3, mm_i v3)] [] := by
  unfold f_X1_init_44 at hf
  refine xr_iinc 47 2 C dX1_init_44 rfl (by decide) (v := 1) (by decide) rfl [(2, mm_i (v2 + 1)), (0, mm_r (some v0)), (1, mm_i v1), (3, mm_i v3)] rfl ?_
  refine xr_sub [1, 2, 0, 3] (lv2 := [(0, mm_r (some v0)), (1, mm_i v1), (2, mm_i (v2 + 1)), (3, mm_i v3)]) rfl ?_
  exact w_X1_init_47 C hf ko
noncomputable def f_X1_init_30 (M : mm_M) (v0 : Nat) (v1 : Int32) (v2 : Int32) (v3 : Int32) : Option ((mm_M × Int32 × Int32 × Int32) ⊕ (mm_M)) :=
  (mm_fR M (some v0) 2 0).bind fun x31 =>
  (mm_tI M x31 v3 v1).bind fun M36 =>
  if v1 < 900 then f_X1_init_47 M36 v0 v1 v2 v3 else f_X1_init_44 M36 v0 v1 v2 v3
set_option maxRecDepth 20000 in
theorem w_X1_init_30 {g : mm_c} (C : mm_ok g cX1_init "LessonCards$Curve" none "<init>" 4 1 20 1 400) {M : mm_M} {v0 : Nat} {v1 : Int32} {v2 : Int32} {v3 : Int32} {res : (mm_M × Int32 × Int32 × Int32) ⊕ (mm_M)} (hf : f_X1_init_30 M v0 v1 v2 v3 = some res) (ko : (mm_o (h_X1_init_21 g v0) (fun z => mm_q g 1 400 none z)) res) : mm_X g 1 400 M 30 [(0, mm_r (some v0)), (1, mm_i v1), (2, mm_i v2), (3, mm_i v3)] [] := by
  unfold f_X1_init_30 at hf
  refine xr_aload_n 31 0 C dX1_init_30 rfl rfl rfl ?_
  obtain ⟨x31, h31, hf⟩ := mm_bd_e hf
  refine xr_getR 34 C cf_X1_11 rfl h31 dX1_init_31 rfl ?_
  refine xr_iload_n 35 3 C dX1_init_34 rfl rfl rfl ?_
  refine xr_iload_n 36 1 C dX1_init_35 rfl rfl rfl ?_
  obtain ⟨M36, h36, hf⟩ := mm_bd_e hf
  refine xr_astI 37 C h36 dX1_init_36 rfl ?_
  refine xr_iload_n 38 1 C dX1_init_37 rfl rfl rfl ?_
  refine xr_sipush 41 C (v := 900) dX1_init_38 (by decide) rfl ?_
  refine xr_icmp_lt 47 44 C dX1_init_41 (by decide) rfl (fun hc => ?_) (fun hc => ?_)
  · replace hf := (if_pos hc).symm.trans hf
    exact w_X1_init_47 C hf ko
  · replace hf := (if_neg hc).symm.trans hf
    exact w_X1_init_44 C hf ko
noncomputable def f_X1_init_63 (M : mm_M) (v0 : Nat) (v2 : Int32) : Option (mm_M) :=
  (mm_pI M (some v0) 2 1 v2).bind fun M65 =>
  some M65
set_option maxRecDepth 20000 in
theorem w_X1_init_63 {g : mm_c} (C : mm_ok g cX1_init "LessonCards$Curve" none "<init>" 4 1 20 1 400) {M : mm_M} {v0 : Nat} {v2 : Int32} {res : mm_M} (hf : f_X1_init_63 M v0 v2 = some res) (ko : (fun z => mm_q g 1 400 none z) res) : mm_X g 1 400 M 63 [(0, mm_r (some v0)), (2, mm_i v2)] [] := by
  unfold f_X1_init_63 at hf
  refine xr_aload_n 64 0 C dX1_init_63 rfl rfl rfl ?_
  refine xr_iload_n 65 1 C dX1_init_64 rfl rfl rfl ?_
  obtain ⟨M65, h65, hf⟩ := mm_bd_e hf
  refine xr_putI 68 C cf_X1_15 (fun _ => ⟨rfl, co_2_1⟩) h65 dX1_init_65 rfl ?_
  obtain rfl := Option.some.inj hf
  exact xr_vret C ko ⟨(Nat.le_of_ble_eq_true rfl), (Nat.le_of_ble_eq_true rfl)⟩ dX1_init_68
noncomputable def f_X1_init_21 (M : mm_M) (v0 : Nat) (v1 : Int32) (v2 : Int32) (v3 : Int32) : Option ((mm_M × Int32 × Int32 × Int32) ⊕ (mm_M)) :=
  (mm_fR M (some v0) 2 0).bind fun x23 =>
  (mm_ln M x23).bind fun x26 =>
  if x26 ≤ v3 then mm_mp (f_X1_init_63 M v0 v2) else f_X1_init_30 M v0 v1 v2 v3
set_option maxRecDepth 20000 in
theorem w_X1_init_21 {g : mm_c} (C : mm_ok g cX1_init "LessonCards$Curve" none "<init>" 4 1 20 1 400) {M : mm_M} {v0 : Nat} {v1 : Int32} {v2 : Int32} {v3 : Int32} {res : (mm_M × Int32 × Int32 × Int32) ⊕ (mm_M)} (hf : f_X1_init_21 M v0 v1 v2 v3 = some res) (ko : (mm_o (h_X1_init_21 g v0) (fun z => mm_q g 1 400 none z)) res) : mm_X g 1 400 M 21 [(0, mm_r (some v0)), (1, mm_i v1), (2, mm_i v2), (3, mm_i v3)] [] := by
  unfold f_X1_init_21 at hf
  refine xr_iload_n 22 3 C dX1_init_21 rfl rfl rfl ?_
  refine xr_aload_n 23 0 C dX1_init_22 rfl rfl rfl ?_
  obtain ⟨x23, h23, hf⟩ := mm_bd_e hf
  refine xr_getR 26 C cf_X1_11 rfl h23 dX1_init_23 rfl ?_
  obtain ⟨x26, h26, hf⟩ := mm_bd_e hf
  refine xr_alen 27 C h26 dX1_init_26 rfl ?_
  refine xr_icmp_ge 63 30 C dX1_init_27 (by decide) rfl (fun hc => ?_) (fun hc => ?_)
  · replace hf := (if_pos hc).symm.trans hf
    refine xr_sub [0, 2] (lv2 := [(0, mm_r (some v0)), (2, mm_i v2)]) rfl ?_
    obtain ⟨z, hf2, rfl⟩ := mm_mp_e hf
    clear hf
    have hf := hf2
    clear hf2
    exact w_X1_init_63 C hf ko
  · replace hf := (if_neg hc).symm.trans hf
    exact w_X1_init_30 C hf ko
noncomputable def f_X1_init_21w (M : mm_M) (v0 : Nat) (v1 : Int32) (v2 : Int32) (v3 : Int32) : Option (mm_M) := mm_w (fun x => f_X1_init_21 x.1 v0 x.2.1 x.2.2.1 x.2.2.2) (M, v1, v2, v3)
theorem l_X1_init_21 {g : mm_c} (C : mm_ok g cX1_init "LessonCards$Curve" none "<init>" 4 1 20 1 400) {M : mm_M} {v0 : Nat} {v1 : Int32} {v2 : Int32} {v3 : Int32} {res : mm_M} (hf : f_X1_init_21w M v0 v1 v2 v3 = some res) (ko : (fun z => mm_q g 1 400 none z) res) : mm_X g 1 400 M 21 [(0, mm_r (some v0)), (1, mm_i v1), (2, mm_i v2), (3, mm_i v3)] [] :=
  mm_w_W (body := fun x => f_X1_init_21 x.1 v0 x.2.1 x.2.2.1 x.2.2.2) (Wh := h_X1_init_21 g v0) (ok := (fun z => mm_q g 1 400 none z)) (x := (M, v1, v2, v3)) (fun x r hb ho => w_X1_init_21 C hb ho) hf ko
noncomputable def f_X1_init_0 (M : mm_M) (v0 : Nat) : Option (mm_M) :=
  (mm_na M 12 400 400).bind fun M8 =>
  (mm_pR M8 (some v0) 2 0 (some (mm_n M))).bind fun M10 =>
  f_X1_init_21w M10 v0 1000 0 0
set_option maxRecDepth 20000 in
theorem w_X1_init_0 {g : mm_c} (C : mm_ok g cX1_init "LessonCards$Curve" none "<init>" 4 1 20 1 400) {M : mm_M} {v0 : Nat} {res : mm_M} (hf : f_X1_init_0 M v0 = some res) (ko : (fun z => mm_q g 1 400 none z) res) : mm_X g 0 0 M 0 [(0, mm_r (some v0))] [] := by
  unfold f_X1_init_0 at hf
  refine xr_aload_n 1 0 C dX1_init_0 rfl rfl rfl ?_
  refine xr_oinit 4 C wd_79 wd_72 wd_73 ⟨Nat.le_of_ble_eq_true rfl, Nat.le_of_ble_eq_true rfl⟩ (Nat.le_of_ble_eq_true rfl) dX1_init_1 rfl ?_
  refine xr_aload_n 5 0 C dX1_init_4 rfl rfl rfl ?_
  refine xr_sipush 8 C (v := 400) dX1_init_5 (by decide) rfl ?_
  obtain ⟨M8, h8, hf⟩ := mm_bd_e hf
  refine xr_newa 10 C (at_ := .int) (lim := 400) (by decide) (by decide) wd_88 h8 dX1_init_8 ⟨(Nat.le_of_ble_eq_true rfl), (Nat.le_of_ble_eq_true rfl)⟩ rfl ?_
  obtain ⟨M10, h10, hf⟩ := mm_bd_e hf
  refine xr_putR 13 C cf_X1_11 (fun _ => ⟨rfl, co_2_0⟩) h10 dX1_init_10 rfl ?_
  refine xr_sipush 16 C (v := 1000) dX1_init_13 (by decide) rfl ?_
  refine xr_istore_n 17 C dX1_init_16 rfl (by decide) rfl [(1, mm_i 1000), (0, mm_r (some v0))] rfl ?_
  refine xr_iconst 18 C (v := 0) dX1_init_17 (by decide) rfl ?_
  refine xr_istore_n 19 C dX1_init_18 rfl (by decide) rfl [(2, mm_i 0), (1, mm_i 1000), (0, mm_r (some v0))] rfl ?_
  refine xr_iconst 20 C (v := 0) dX1_init_19 (by decide) rfl ?_
  refine xr_istore_n 21 C dX1_init_20 rfl (by decide) rfl [(3, mm_i 0), (2, mm_i 0), (1, mm_i 1000), (0, mm_r (some v0))] rfl ?_
  refine xr_sub [3, 2, 1, 0] (lv2 := [(0, mm_r (some v0)), (1, mm_i 1000), (2, mm_i 0), (3, mm_i 0)]) rfl ?_
  exact l_X1_init_21 C hf ko
noncomputable def f_X1_init (M : mm_M) (v0 : Nat) : Option (mm_M) := f_X1_init_0 M v0
theorem c_X1_init (l : Launch) (G : va_G) (cy : Nat → ClassId) {M : mm_M} {v0 : Nat} {M1 : mm_M} (hf : f_X1_init M v0 = some M1) : mm_Met l yX1_init cX1_init 4 none 1 20 1 400 G cy [mm_r (some v0)] M none M1 :=
  mm_enter (by decide) (Nat.le_of_ble_eq_true rfl) (fun p e R s m args below meth c Q C hq => xr_sub [0] (lv2 := [(0, mm_r (some v0))]) rfl (w_X1_init_0 C hf hq))
noncomputable def f_X1_chanceAt_4 (M : mm_M) : Option (Int32) :=
  some 1000
set_option maxRecDepth 20000 in
theorem w_X1_chanceAt_4 {g : mm_c} (C : mm_ok g cX1_chanceAt "LessonCards$Curve" (some .int) "chanceAt" 2 0 0 0 0) {M : mm_M} {res : Int32} (hf : f_X1_chanceAt_4 M = some res) (ko : (fun z => mm_q g 0 0 (some (mm_i z)) M) res) : mm_X g 0 0 M 4 [] [] := by
  unfold f_X1_chanceAt_4 at hf
  refine xr_sipush 7 C (v := 1000) dX1_chanceAt_4 (by decide) rfl ?_
  obtain rfl := Option.some.inj hf
  exact xr_iret C ko ⟨(Nat.le_of_ble_eq_true rfl), (Nat.le_of_ble_eq_true rfl)⟩ dX1_chanceAt_7
noncomputable def f_X1_chanceAt_27 (M : mm_M) (s0 : Int32) : Option (Int32) :=
  some s0
set_option maxRecDepth 20000 in
theorem w_X1_chanceAt_27 {g : mm_c} (C : mm_ok g cX1_chanceAt "LessonCards$Curve" (some .int) "chanceAt" 2 0 0 0 0) {M : mm_M} {s0 : Int32} {res : Int32} (hf : f_X1_chanceAt_27 M s0 = some res) (ko : (fun z => mm_q g 0 0 (some (mm_i z)) M) res) : mm_X g 0 0 M 27 [] [mm_i s0] := by
  unfold f_X1_chanceAt_27 at hf
  obtain rfl := Option.some.inj hf
  exact xr_iret C ko ⟨(Nat.le_of_ble_eq_true rfl), (Nat.le_of_ble_eq_true rfl)⟩ dX1_chanceAt_27
noncomputable def f_X1_chanceAt_17 (M : mm_M) (v0 : Option Nat) (v1 : Int32) : Option (Int32) :=
  (mm_fR M v0 2 0).bind fun x18 =>
  (mm_aI M x18 12 v1).bind fun x22 =>
  f_X1_chanceAt_27 M x22
set_option maxRecDepth 20000 in
theorem w_X1_chanceAt_17 {g : mm_c} (C : mm_ok g cX1_chanceAt "LessonCards$Curve" (some .int) "chanceAt" 2 0 0 0 0) {M : mm_M} {v0 : Option Nat} {v1 : Int32} {res : Int32} (hf : f_X1_chanceAt_17 M v0 v1 = some res) (ko : (fun z => mm_q g 0 0 (some (mm_i z)) M) res) : mm_X g 0 0 M 17 [(0, mm_r v0), (1, mm_i v1)] [] := by
  unfold f_X1_chanceAt_17 at hf
  refine xr_aload_n 18 0 C dX1_chanceAt_17 rfl rfl rfl ?_
  obtain ⟨x18, h18, hf⟩ := mm_bd_e hf
  refine xr_getR 21 C cf_X1_11 rfl h18 dX1_chanceAt_18 rfl ?_
  refine xr_iload_n 22 1 C dX1_chanceAt_21 rfl rfl rfl ?_
  obtain ⟨x22, h22, hf⟩ := mm_bd_e hf
  refine xr_aldI 23 C h22 dX1_chanceAt_22 rfl ?_
  refine xr_goto 27 C dX1_chanceAt_23 (by decide) ?_
  refine xr_sub [] (lv2 := []) rfl ?_
  exact w_X1_chanceAt_27 C hf ko
noncomputable def f_X1_chanceAt_26 (M : mm_M) : Option (Int32) :=
  f_X1_chanceAt_27 M 0
set_option maxRecDepth 20000 in
theorem w_X1_chanceAt_26 {g : mm_c} (C : mm_ok g cX1_chanceAt "LessonCards$Curve" (some .int) "chanceAt" 2 0 0 0 0) {M : mm_M} {res : Int32} (hf : f_X1_chanceAt_26 M = some res) (ko : (fun z => mm_q g 0 0 (some (mm_i z)) M) res) : mm_X g 0 0 M 26 [] [] := by
  unfold f_X1_chanceAt_26 at hf
  refine xr_iconst 27 C (v := 0) dX1_chanceAt_26 (by decide) rfl ?_
  exact w_X1_chanceAt_27 C hf ko
noncomputable def f_X1_chanceAt_8 (M : mm_M) (v0 : Option Nat) (v1 : Int32) : Option (Int32) :=
  (mm_fR M v0 2 0).bind fun x10 =>
  (mm_ln M x10).bind fun x13 =>
  if x13 ≤ v1 then f_X1_chanceAt_26 M else f_X1_chanceAt_17 M v0 v1
set_option maxRecDepth 20000 in
theorem w_X1_chanceAt_8 {g : mm_c} (C : mm_ok g cX1_chanceAt "LessonCards$Curve" (some .int) "chanceAt" 2 0 0 0 0) {M : mm_M} {v0 : Option Nat} {v1 : Int32} {res : Int32} (hf : f_X1_chanceAt_8 M v0 v1 = some res) (ko : (fun z => mm_q g 0 0 (some (mm_i z)) M) res) : mm_X g 0 0 M 8 [(0, mm_r v0), (1, mm_i v1)] [] := by
  unfold f_X1_chanceAt_8 at hf
  refine xr_iload_n 9 1 C dX1_chanceAt_8 rfl rfl rfl ?_
  refine xr_aload_n 10 0 C dX1_chanceAt_9 rfl rfl rfl ?_
  obtain ⟨x10, h10, hf⟩ := mm_bd_e hf
  refine xr_getR 13 C cf_X1_11 rfl h10 dX1_chanceAt_10 rfl ?_
  obtain ⟨x13, h13, hf⟩ := mm_bd_e hf
  refine xr_alen 14 C h13 dX1_chanceAt_13 rfl ?_
  refine xr_icmp_ge 26 17 C dX1_chanceAt_14 (by decide) rfl (fun hc => ?_) (fun hc => ?_)
  · replace hf := (if_pos hc).symm.trans hf
    refine xr_sub [] (lv2 := []) rfl ?_
    exact w_X1_chanceAt_26 C hf ko
  · replace hf := (if_neg hc).symm.trans hf
    exact w_X1_chanceAt_17 C hf ko
noncomputable def f_X1_chanceAt_0 (M : mm_M) (v0 : Option Nat) (v1 : Int32) : Option (Int32) :=
  if 0 ≤ v1 then f_X1_chanceAt_8 M v0 v1 else f_X1_chanceAt_4 M
set_option maxRecDepth 20000 in
theorem w_X1_chanceAt_0 {g : mm_c} (C : mm_ok g cX1_chanceAt "LessonCards$Curve" (some .int) "chanceAt" 2 0 0 0 0) {M : mm_M} {v0 : Option Nat} {v1 : Int32} {res : Int32} (hf : f_X1_chanceAt_0 M v0 v1 = some res) (ko : (fun z => mm_q g 0 0 (some (mm_i z)) M) res) : mm_X g 0 0 M 0 [(0, mm_r v0), (1, mm_i v1)] [] := by
  unfold f_X1_chanceAt_0 at hf
  refine xr_iload_n 1 1 C dX1_chanceAt_0 rfl rfl rfl ?_
  refine xr_if_ge 8 4 C dX1_chanceAt_1 (by decide) rfl (fun hc => ?_) (fun hc => ?_)
  · replace hf := (if_pos hc).symm.trans hf
    exact w_X1_chanceAt_8 C hf ko
  · replace hf := (if_neg hc).symm.trans hf
    refine xr_sub [] (lv2 := []) rfl ?_
    exact w_X1_chanceAt_4 C hf ko
noncomputable def f_X1_chanceAt (M : mm_M) (v0 : Option Nat) (v1 : Int32) : Option (Int32) := f_X1_chanceAt_0 M v0 v1
theorem c_X1_chanceAt (l : Launch) (G : va_G) (cy : Nat → ClassId) {M : mm_M} {v0 : Option Nat} {v1 : Int32} {r : Int32} (hf : f_X1_chanceAt M v0 v1 = some r) : mm_Met l yX1_chanceAt cX1_chanceAt 2 (some .int) 0 0 0 0 G cy [mm_r v0, mm_i v1] M (some (mm_i r)) M :=
  mm_enter (by decide) (Nat.le_of_ble_eq_true rfl) (fun p e R s m args below meth c Q C hq => xr_sub [0, 1] (lv2 := [(0, mm_r v0), (1, mm_i v1)]) rfl (w_X1_chanceAt_0 C hf hq))
noncomputable def f_Jxa1e45_init_da8c8_0 (M : mm_M) (v0 : Nat) : Option (mm_M) :=
  some M
set_option maxRecDepth 20000 in
theorem w_Jxa1e45_init_da8c8_0 {g : mm_c} (C : mm_ok g cJxa1e45_init_da8c8 "java/util/AbstractCollection" none "<init>" 1 1 20 0 0) {M : mm_M} {v0 : Nat} {res : mm_M} (hf : f_Jxa1e45_init_da8c8_0 M v0 = some res) (ko : (fun z => mm_q g 0 0 none z) res) : mm_X g 0 0 M 0 [(0, mm_r (some v0))] [] := by
  unfold f_Jxa1e45_init_da8c8_0 at hf
  refine xr_aload_n 1 0 C dJxa1e45_init_da8c8_0 rfl rfl rfl ?_
  refine xr_oinit 4 C wd_106 wd_72 wd_73 ⟨Nat.le_of_ble_eq_true rfl, Nat.le_of_ble_eq_true rfl⟩ (Nat.le_of_ble_eq_true rfl) dJxa1e45_init_da8c8_1 rfl ?_
  obtain rfl := Option.some.inj hf
  exact xr_vret C ko ⟨(Nat.le_of_ble_eq_true rfl), (Nat.le_of_ble_eq_true rfl)⟩ dJxa1e45_init_da8c8_4
noncomputable def f_Jxa1e45_init_da8c8 (M : mm_M) (v0 : Nat) : Option (mm_M) := f_Jxa1e45_init_da8c8_0 M v0
theorem c_Jxa1e45_init_da8c8 (l : Launch) (G : va_G) (cy : Nat → ClassId) {M : mm_M} {v0 : Nat} {M1 : mm_M} (hf : f_Jxa1e45_init_da8c8 M v0 = some M1) : mm_Met l yJxa1e45_init_da8c8 cJxa1e45_init_da8c8 1 none 1 20 0 0 G cy [mm_r (some v0)] M none M1 :=
  mm_enter (by decide) (Nat.le_of_ble_eq_true rfl) (fun p e R s m args below meth c Q C hq => xr_sub [0] (lv2 := [(0, mm_r (some v0))]) rfl (w_Jxa1e45_init_da8c8_0 C hf hq))
noncomputable def f_Jxc12de_init_da8c8_0 (M : mm_M) (v0 : Nat) : Option (mm_M) :=
  (f_Jxa1e45_init_da8c8 M v0).bind fun M1 =>
  (mm_pI M1 (some v0) 0 0 0).bind fun M6 =>
  some M6
set_option maxRecDepth 20000 in
theorem w_Jxc12de_init_da8c8_0 {g : mm_c} (C : mm_ok g cJxc12de_init_da8c8 "java/util/AbstractList" none "<init>" 1 2 40 0 0) {M : mm_M} {v0 : Nat} {res : mm_M} (hf : f_Jxc12de_init_da8c8_0 M v0 = some res) (ko : (fun z => mm_q g 0 0 none z) res) : mm_X g 0 0 M 0 [(0, mm_r (some v0))] [] := by
  unfold f_Jxc12de_init_da8c8_0 at hf
  refine xr_aload_n 1 0 C dJxc12de_init_da8c8_0 rfl rfl rfl ?_
  obtain ⟨M1, h1, hf⟩ := mm_bd_e hf
  refine xr_callI 4 C [] cm_Jxc12de_1 (fun l G cy => c_Jxa1e45_init_da8c8 l G cy h1) rfl rfl ⟨⟨Nat.le_of_ble_eq_true rfl, Nat.le_of_ble_eq_true rfl⟩, (Nat.le_of_ble_eq_true rfl), (Nat.le_of_ble_eq_true rfl)⟩ (Nat.le_of_ble_eq_true rfl) dJxc12de_init_da8c8_1 rfl ?_
  refine xr_aload_n 5 0 C dJxc12de_init_da8c8_4 rfl rfl rfl ?_
  refine xr_iconst 6 C (v := 0) dJxc12de_init_da8c8_5 (by decide) rfl ?_
  obtain ⟨M6, h6, hf⟩ := mm_bd_e hf
  refine xr_putI 9 C cf_Jxc12de_7 (fun h => by cases h) h6 dJxc12de_init_da8c8_6 rfl ?_
  obtain rfl := Option.some.inj hf
  exact xr_vret C ko ⟨(Nat.le_of_ble_eq_true rfl), (Nat.le_of_ble_eq_true rfl)⟩ dJxc12de_init_da8c8_9
noncomputable def f_Jxc12de_init_da8c8 (M : mm_M) (v0 : Nat) : Option (mm_M) := f_Jxc12de_init_da8c8_0 M v0
theorem c_Jxc12de_init_da8c8 (l : Launch) (G : va_G) (cy : Nat → ClassId) {M : mm_M} {v0 : Nat} {M1 : mm_M} (hf : f_Jxc12de_init_da8c8 M v0 = some M1) : mm_Met l yJxc12de_init_da8c8 cJxc12de_init_da8c8 1 none 2 40 0 0 G cy [mm_r (some v0)] M none M1 :=
  mm_enter (by decide) (Nat.le_of_ble_eq_true rfl) (fun p e R s m args below meth c Q C hq => xr_sub [0] (lv2 := [(0, mm_r (some v0))]) rfl (w_Jxc12de_init_da8c8_0 C hf hq))
noncomputable def f_Jx4a65c_init_da8c8_0 (M : mm_M) (v0 : Nat) : Option (mm_M) :=
  (f_Jxc12de_init_da8c8 M v0).bind fun M1 =>
  (mm_pR M1 (some v0) 0 1 (some (mm_z M1))).bind fun M8 =>
  some M8
set_option maxRecDepth 20000 in
theorem w_Jx4a65c_init_da8c8_0 {g : mm_c} (C : mm_ok g cJx4a65c_init_da8c8 "java/util/ArrayList" none "<init>" 1 3 60 0 0) {M : mm_M} {v0 : Nat} {res : mm_M} (hf : f_Jx4a65c_init_da8c8_0 M v0 = some res) (ko : (fun z => mm_q g 0 0 none z) res) : mm_X g 0 0 M 0 [(0, mm_r (some v0))] [] := by
  unfold f_Jx4a65c_init_da8c8_0 at hf
  refine xr_aload_n 1 0 C dJx4a65c_init_da8c8_0 rfl rfl rfl ?_
  obtain ⟨M1, h1, hf⟩ := mm_bd_e hf
  refine xr_callI 4 C [] cm_Jx4a65c_1 (fun l G cy => c_Jxc12de_init_da8c8 l G cy h1) rfl rfl ⟨⟨Nat.le_of_ble_eq_true rfl, Nat.le_of_ble_eq_true rfl⟩, (Nat.le_of_ble_eq_true rfl), (Nat.le_of_ble_eq_true rfl)⟩ (Nat.le_of_ble_eq_true rfl) dJx4a65c_init_da8c8_1 rfl ?_
  refine xr_aload_n 5 0 C dJx4a65c_init_da8c8_4 rfl rfl rfl ?_
  refine xr_gets 8 C wd_107 dJx4a65c_init_da8c8_5 rfl ?_
  obtain ⟨M8, h8, hf⟩ := mm_bd_e hf
  refine xr_putR 11 C cf_Jx4a65c_9 (fun h => by cases h) h8 dJx4a65c_init_da8c8_8 rfl ?_
  obtain rfl := Option.some.inj hf
  exact xr_vret C ko ⟨(Nat.le_of_ble_eq_true rfl), (Nat.le_of_ble_eq_true rfl)⟩ dJx4a65c_init_da8c8_11
noncomputable def f_Jx4a65c_init_da8c8 (M : mm_M) (v0 : Nat) : Option (mm_M) := f_Jx4a65c_init_da8c8_0 M v0
theorem c_Jx4a65c_init_da8c8 (l : Launch) (G : va_G) (cy : Nat → ClassId) {M : mm_M} {v0 : Nat} {M1 : mm_M} (hf : f_Jx4a65c_init_da8c8 M v0 = some M1) : mm_Met l yJx4a65c_init_da8c8 cJx4a65c_init_da8c8 1 none 3 60 0 0 G cy [mm_r (some v0)] M none M1 :=
  mm_enter (by decide) (Nat.le_of_ble_eq_true rfl) (fun p e R s m args below meth c Q C hq => xr_sub [0] (lv2 := [(0, mm_r (some v0))]) rfl (w_Jx4a65c_init_da8c8_0 C hf hq))
noncomputable def f_X2_init_0 (M : mm_M) (v0 : Nat) : Option (mm_M) :=
  mm_le (mm_nw M (0, 0)) fun M5 =>
  (f_Jx4a65c_init_da8c8 M5 (mm_n M)).bind fun M9 =>
  (mm_pR M9 (some v0) 3 0 (some (mm_n M))).bind fun M12 =>
  (mm_na M12 12 120 120).bind fun M18 =>
  (mm_pR M18 (some v0) 3 1 (some (mm_n M12))).bind fun M20 =>
  (mm_na M20 14 120 120).bind fun M26 =>
  (mm_pR M26 (some v0) 3 2 (some (mm_n M20))).bind fun M28 =>
  some M28
set_option maxRecDepth 20000 in
theorem w_X2_init_0 {g : mm_c} (C : mm_ok g cX2_init "LessonCards$Deck" none "<init>" 1 4 80 3 243) {M : mm_M} {v0 : Nat} {res : mm_M} (hf : f_X2_init_0 M v0 = some res) (ko : (fun z => mm_q g 3 243 none z) res) : mm_X g 0 0 M 0 [(0, mm_r (some v0))] [] := by
  unfold f_X2_init_0 at hf
  refine xr_aload_n 1 0 C dX2_init_0 rfl rfl rfl ?_
  refine xr_oinit 4 C wd_94 wd_72 wd_73 ⟨Nat.le_of_ble_eq_true rfl, Nat.le_of_ble_eq_true rfl⟩ (Nat.le_of_ble_eq_true rfl) dX2_init_1 rfl ?_
  refine xr_aload_n 5 0 C dX2_init_4 rfl rfl rfl ?_
  obtain ⟨M5, h5, hf⟩ := mm_le_e hf
  refine xr_new 8 C (ci := 0) (Cn := RJx4a65c) (T := TJx4a65c) (N := 3) (ty := tyJx4a65c) rfl (by decide) in_Jx4a65c tyJx4a65c_ok nf_Jx4a65c wd_95 wd_96 wd_51 dX2_init_5 ⟨(Nat.le_of_ble_eq_true rfl), (Nat.le_of_ble_eq_true rfl)⟩ rfl h5 ?_
  refine xr_dup 9 C dX2_init_8 rfl rfl ?_
  obtain ⟨M9, h9, hf⟩ := mm_bd_e hf
  refine xr_callI 12 C [] cm_X2_11 (fun l G cy => c_Jx4a65c_init_da8c8 l G cy h9) rfl rfl ⟨⟨Nat.le_of_ble_eq_true rfl, Nat.le_of_ble_eq_true rfl⟩, (Nat.le_of_ble_eq_true rfl), (Nat.le_of_ble_eq_true rfl)⟩ (Nat.le_of_ble_eq_true rfl) dX2_init_9 rfl ?_
  obtain ⟨M12, h12, hf⟩ := mm_bd_e hf
  refine xr_putR 15 C cf_X2_12 (fun _ => ⟨rfl, co_3_0⟩) h12 dX2_init_12 rfl ?_
  refine xr_aload_n 16 0 C dX2_init_15 rfl rfl rfl ?_
  refine xr_bipush 18 C (v := 120) dX2_init_16 (by decide) rfl ?_
  obtain ⟨M18, h18, hf⟩ := mm_bd_e hf
  refine xr_newa 20 C (at_ := .int) (lim := 120) (by decide) (by decide) wd_88 h18 dX2_init_18 ⟨(Nat.le_of_ble_eq_true rfl), (Nat.le_of_ble_eq_true rfl)⟩ rfl ?_
  obtain ⟨M20, h20, hf⟩ := mm_bd_e hf
  refine xr_putR 23 C cf_X2_18 (fun _ => ⟨rfl, co_3_1⟩) h20 dX2_init_20 rfl ?_
  refine xr_aload_n 24 0 C dX2_init_23 rfl rfl rfl ?_
  refine xr_bipush 26 C (v := 120) dX2_init_24 (by decide) rfl ?_
  obtain ⟨M26, h26, hf⟩ := mm_bd_e hf
  refine xr_newa 28 C (at_ := .boolean) (lim := 120) (by decide) (by decide) wd_131 h26 dX2_init_26 ⟨(Nat.le_of_ble_eq_true rfl), (Nat.le_of_ble_eq_true rfl)⟩ rfl ?_
  obtain ⟨M28, h28, hf⟩ := mm_bd_e hf
  refine xr_putR 31 C cf_X2_22 (fun _ => ⟨rfl, co_3_2⟩) h28 dX2_init_28 rfl ?_
  obtain rfl := Option.some.inj hf
  exact xr_vret C ko ⟨(Nat.le_of_ble_eq_true rfl), (Nat.le_of_ble_eq_true rfl)⟩ dX2_init_31
noncomputable def f_X2_init (M : mm_M) (v0 : Nat) : Option (mm_M) := f_X2_init_0 M v0
theorem c_X2_init (l : Launch) (G : va_G) (cy : Nat → ClassId) {M : mm_M} {v0 : Nat} {M1 : mm_M} (hf : f_X2_init M v0 = some M1) : mm_Met l yX2_init cX2_init 1 none 4 80 3 243 G cy [mm_r (some v0)] M none M1 :=
  mm_enter (by decide) (Nat.le_of_ble_eq_true rfl) (fun p e R s m args below meth c Q C hq => xr_sub [0] (lv2 := [(0, mm_r (some v0))]) rfl (w_X2_init_0 C hf hq))
noncomputable def f_Jx4a65c_size_8abf5_0 (M : mm_M) (v0 : Option Nat) : Option (Int32) :=
  (mm_fI M v0 0 2).bind fun x1 =>
  some x1
set_option maxRecDepth 20000 in
theorem w_Jx4a65c_size_8abf5_0 {g : mm_c} (C : mm_ok g cJx4a65c_size_8abf5 "java/util/ArrayList" (some .int) "size" 1 0 0 0 0) {M : mm_M} {v0 : Option Nat} {res : Int32} (hf : f_Jx4a65c_size_8abf5_0 M v0 = some res) (ko : (fun z => mm_q g 0 0 (some (mm_i z)) M) res) : mm_X g 0 0 M 0 [(0, mm_r v0)] [] := by
  unfold f_Jx4a65c_size_8abf5_0 at hf
  refine xr_aload_n 1 0 C dJx4a65c_size_8abf5_0 rfl rfl rfl ?_
  obtain ⟨x1, h1, hf⟩ := mm_bd_e hf
  refine xr_getI 4 C cf_Jx4a65c_48 rfl h1 dJx4a65c_size_8abf5_1 rfl ?_
  obtain rfl := Option.some.inj hf
  exact xr_iret C ko ⟨(Nat.le_of_ble_eq_true rfl), (Nat.le_of_ble_eq_true rfl)⟩ dJx4a65c_size_8abf5_4
noncomputable def f_Jx4a65c_size_8abf5 (M : mm_M) (v0 : Option Nat) : Option (Int32) := f_Jx4a65c_size_8abf5_0 M v0
theorem c_Jx4a65c_size_8abf5 (l : Launch) (G : va_G) (cy : Nat → ClassId) {M : mm_M} {v0 : Option Nat} {r : Int32} (hf : f_Jx4a65c_size_8abf5 M v0 = some r) : mm_Met l yJx4a65c_size_8abf5 cJx4a65c_size_8abf5 1 (some .int) 0 0 0 0 G cy [mm_r v0] M (some (mm_i r)) M :=
  mm_enter (by decide) (Nat.le_of_ble_eq_true rfl) (fun p e R s m args below meth c Q C hq => xr_sub [0] (lv2 := [(0, mm_r v0)]) rfl (w_Jx4a65c_size_8abf5_0 C hf hq))
noncomputable def f_X2_size_0 (M : mm_M) (v0 : Option Nat) : Option (Int32) :=
  (mm_fR M v0 3 0).bind fun x1 =>
  (mm_rc M x1 0).bind fun u4 =>
  (f_Jx4a65c_size_8abf5 M x1).bind fun x4 =>
  some x4
set_option maxRecDepth 20000 in
theorem w_X2_size_0 {g : mm_c} (C : mm_ok g cX2_size "LessonCards$Deck" (some .int) "size" 1 1 20 0 0) {M : mm_M} {v0 : Option Nat} {res : Int32} (hf : f_X2_size_0 M v0 = some res) (ko : (fun z => mm_q g 0 0 (some (mm_i z)) M) res) : mm_X g 0 0 M 0 [(0, mm_r v0)] [] := by
  unfold f_X2_size_0 at hf
  refine xr_aload_n 1 0 C dX2_size_0 rfl rfl rfl ?_
  obtain ⟨x1, h1, hf⟩ := mm_bd_e hf
  refine xr_getR 4 C cf_X2_12 rfl h1 dX2_size_1 rfl ?_
  obtain ⟨u4, g4, hf⟩ := mm_bd_e hf
  obtain ⟨x4, h4, hf⟩ := mm_bd_e hf
  refine xr_callV 7 C [] cm_X2_26 (fun l G cy => c_Jx4a65c_size_8abf5 l G cy h4) g4 rfl rfl ⟨⟨Nat.le_of_ble_eq_true rfl, Nat.le_of_ble_eq_true rfl⟩, (Nat.le_of_ble_eq_true rfl), (Nat.le_of_ble_eq_true rfl)⟩ (Nat.le_of_ble_eq_true rfl) dX2_size_4 rfl ?_
  obtain rfl := Option.some.inj hf
  exact xr_iret C ko ⟨(Nat.le_of_ble_eq_true rfl), (Nat.le_of_ble_eq_true rfl)⟩ dX2_size_7
noncomputable def f_X2_size (M : mm_M) (v0 : Option Nat) : Option (Int32) := f_X2_size_0 M v0
theorem c_X2_size (l : Launch) (G : va_G) (cy : Nat → ClassId) {M : mm_M} {v0 : Option Nat} {r : Int32} (hf : f_X2_size M v0 = some r) : mm_Met l yX2_size cX2_size 1 (some .int) 1 20 0 0 G cy [mm_r v0] M (some (mm_i r)) M :=
  mm_enter (by decide) (Nat.le_of_ble_eq_true rfl) (fun p e R s m args below meth c Q C hq => xr_sub [0] (lv2 := [(0, mm_r v0)]) rfl (w_X2_size_0 C hf hq))
noncomputable def f_J8_hugeLength_7cf53_8 (M : mm_M) (v0 : Int32) (v1 : Int32) : Option (Int32 × mm_M) :=
  none
set_option maxRecDepth 20000 in
theorem w_J8_hugeLength_7cf53_8 {g : mm_c} (C : mm_ok g cJ8_hugeLength_7cf53 "jdk/internal/util/ArraysSupport" (some .int) "hugeLength" 3 0 0 0 0) {M : mm_M} {v0 : Int32} {v1 : Int32} {res : Int32 × mm_M} (hf : f_J8_hugeLength_7cf53_8 M v0 v1 = some res) (ko : (fun z => mm_q g 0 0 (some (mm_i z.1)) z.2) res) : mm_X g 0 0 M 8 [(0, mm_i v0), (1, mm_i v1)] [] := by
  unfold f_J8_hugeLength_7cf53_8 at hf
  cases hf
noncomputable def f_J8_hugeLength_7cf53_55 (M : mm_M) : Option (Int32 × mm_M) :=
  some (2147483639, M)
set_option maxRecDepth 20000 in
theorem w_J8_hugeLength_7cf53_55 {g : mm_c} (C : mm_ok g cJ8_hugeLength_7cf53 "jdk/internal/util/ArraysSupport" (some .int) "hugeLength" 3 0 0 0 0) {M : mm_M} {res : Int32 × mm_M} (hf : f_J8_hugeLength_7cf53_55 M = some res) (ko : (fun z => mm_q g 0 0 (some (mm_i z.1)) z.2) res) : mm_X g 0 0 M 55 [] [] := by
  unfold f_J8_hugeLength_7cf53_55 at hf
  refine xr_ldc 57 C wd_323 dJ8_hugeLength_7cf53_55 rfl ?_
  obtain rfl := Option.some.inj hf
  exact xr_iret C ko ⟨(Nat.le_of_ble_eq_true rfl), (Nat.le_of_ble_eq_true rfl)⟩ dJ8_hugeLength_7cf53_57
noncomputable def f_J8_hugeLength_7cf53_58 (M : mm_M) (v2 : Int32) : Option (Int32 × mm_M) :=
  some (v2, M)
set_option maxRecDepth 20000 in
theorem w_J8_hugeLength_7cf53_58 {g : mm_c} (C : mm_ok g cJ8_hugeLength_7cf53 "jdk/internal/util/ArraysSupport" (some .int) "hugeLength" 3 0 0 0 0) {M : mm_M} {v2 : Int32} {res : Int32 × mm_M} (hf : f_J8_hugeLength_7cf53_58 M v2 = some res) (ko : (fun z => mm_q g 0 0 (some (mm_i z.1)) z.2) res) : mm_X g 0 0 M 58 [(2, mm_i v2)] [] := by
  unfold f_J8_hugeLength_7cf53_58 at hf
  refine xr_iload_n 59 0 C dJ8_hugeLength_7cf53_58 rfl rfl rfl ?_
  obtain rfl := Option.some.inj hf
  exact xr_iret C ko ⟨(Nat.le_of_ble_eq_true rfl), (Nat.le_of_ble_eq_true rfl)⟩ dJ8_hugeLength_7cf53_59
noncomputable def f_J8_hugeLength_7cf53_49 (M : mm_M) (v2 : Int32) : Option (Int32 × mm_M) :=
  if 2147483639 < v2 then f_J8_hugeLength_7cf53_58 M v2 else f_J8_hugeLength_7cf53_55 M
set_option maxRecDepth 20000 in
theorem w_J8_hugeLength_7cf53_49 {g : mm_c} (C : mm_ok g cJ8_hugeLength_7cf53 "jdk/internal/util/ArraysSupport" (some .int) "hugeLength" 3 0 0 0 0) {M : mm_M} {v2 : Int32} {res : Int32 × mm_M} (hf : f_J8_hugeLength_7cf53_49 M v2 = some res) (ko : (fun z => mm_q g 0 0 (some (mm_i z.1)) z.2) res) : mm_X g 0 0 M 49 [(2, mm_i v2)] [] := by
  unfold f_J8_hugeLength_7cf53_49 at hf
  refine xr_iload_n 50 0 C dJ8_hugeLength_7cf53_49 rfl rfl rfl ?_
  refine xr_ldc 52 C wd_323 dJ8_hugeLength_7cf53_50 rfl ?_
  refine xr_icmp_gt 58 55 C dJ8_hugeLength_7cf53_52 (by decide) rfl (fun hc => ?_) (fun hc => ?_)
  · replace hf := (if_pos hc).symm.trans hf
    exact w_J8_hugeLength_7cf53_58 C hf ko
  · replace hf := (if_neg hc).symm.trans hf
    refine xr_sub [] (lv2 := []) rfl ?_
    exact w_J8_hugeLength_7cf53_55 C hf ko
noncomputable def f_J8_hugeLength_7cf53_0 (M : mm_M) (v0 : Int32) (v1 : Int32) : Option (Int32 × mm_M) :=
  if 0 ≤ (v0 + v1) then f_J8_hugeLength_7cf53_49 M (v0 + v1) else f_J8_hugeLength_7cf53_8 M v0 v1
set_option maxRecDepth 20000 in
theorem w_J8_hugeLength_7cf53_0 {g : mm_c} (C : mm_ok g cJ8_hugeLength_7cf53 "jdk/internal/util/ArraysSupport" (some .int) "hugeLength" 3 0 0 0 0) {M : mm_M} {v0 : Int32} {v1 : Int32} {res : Int32 × mm_M} (hf : f_J8_hugeLength_7cf53_0 M v0 v1 = some res) (ko : (fun z => mm_q g 0 0 (some (mm_i z.1)) z.2) res) : mm_X g 0 0 M 0 [(0, mm_i v0), (1, mm_i v1)] [] := by
  unfold f_J8_hugeLength_7cf53_0 at hf
  refine xr_iload_n 1 0 C dJ8_hugeLength_7cf53_0 rfl rfl rfl ?_
  refine xr_iload_n 2 1 C dJ8_hugeLength_7cf53_1 rfl rfl rfl ?_
  refine xr_iadd 3 C dJ8_hugeLength_7cf53_2 rfl ?_
  refine xr_istore_n 4 C dJ8_hugeLength_7cf53_3 rfl (by decide) rfl [(2, mm_i (v0 + v1)), (0, mm_i v0), (1, mm_i v1)] rfl ?_
  refine xr_iload_n 5 0 C dJ8_hugeLength_7cf53_4 rfl rfl rfl ?_
  refine xr_if_ge 49 8 C dJ8_hugeLength_7cf53_5 (by decide) rfl (fun hc => ?_) (fun hc => ?_)
  · replace hf := (if_pos hc).symm.trans hf
    refine xr_sub [0] (lv2 := [(2, mm_i (v0 + v1))]) rfl ?_
    exact w_J8_hugeLength_7cf53_49 C hf ko
  · replace hf := (if_neg hc).symm.trans hf
    refine xr_sub [1, 2] (lv2 := [(0, mm_i v0), (1, mm_i v1)]) rfl ?_
    exact w_J8_hugeLength_7cf53_8 C hf ko
noncomputable def f_J8_hugeLength_7cf53 (M : mm_M) (v0 : Int32) (v1 : Int32) : Option (Int32 × mm_M) := f_J8_hugeLength_7cf53_0 M v0 v1
theorem c_J8_hugeLength_7cf53 (l : Launch) (G : va_G) (cy : Nat → ClassId) {M : mm_M} {v0 : Int32} {v1 : Int32} {r : Int32} {M1 : mm_M} (hf : f_J8_hugeLength_7cf53 M v0 v1 = some (r, M1)) : mm_Met l yJ8_hugeLength_7cf53 cJ8_hugeLength_7cf53 3 (some .int) 0 0 0 0 G cy [mm_i v0, mm_i v1] M (some (mm_i r)) M1 :=
  mm_enter (by decide) (Nat.le_of_ble_eq_true rfl) (fun p e R s m args below meth c Q C hq => xr_sub [0, 1] (lv2 := [(0, mm_i v0), (1, mm_i v1)]) rfl (w_J8_hugeLength_7cf53_0 C hf hq))
noncomputable def f_J8_newLength_cabcc_19 (M : mm_M) (v3 : Int32) : Option (Int32 × mm_M) :=
  some (v3, M)
set_option maxRecDepth 20000 in
theorem w_J8_newLength_cabcc_19 {g : mm_c} (C : mm_ok g cJ8_newLength_cabcc "jdk/internal/util/ArraysSupport" (some .int) "newLength" 4 1 22 0 0) {M : mm_M} {v3 : Int32} {res : Int32 × mm_M} (hf : f_J8_newLength_cabcc_19 M v3 = some res) (ko : (fun z => mm_q g 0 0 (some (mm_i z.1)) z.2) res) : mm_X g 0 0 M 19 [(3, mm_i v3)] [] := by
  unfold f_J8_newLength_cabcc_19 at hf
  refine xr_iload_n 20 0 C dJ8_newLength_cabcc_19 rfl rfl rfl ?_
  obtain rfl := Option.some.inj hf
  exact xr_iret C ko ⟨(Nat.le_of_ble_eq_true rfl), (Nat.le_of_ble_eq_true rfl)⟩ dJ8_newLength_cabcc_20
noncomputable def f_J8_newLength_cabcc_21 (M : mm_M) (v0 : Int32) (v1 : Int32) : Option (Int32 × mm_M) :=
  mm_b2 (f_J8_hugeLength_7cf53 M v0 v1) fun x23 M23 =>
  some (x23, M23)
set_option maxRecDepth 20000 in
theorem w_J8_newLength_cabcc_21 {g : mm_c} (C : mm_ok g cJ8_newLength_cabcc "jdk/internal/util/ArraysSupport" (some .int) "newLength" 4 1 22 0 0) {M : mm_M} {v0 : Int32} {v1 : Int32} {res : Int32 × mm_M} (hf : f_J8_newLength_cabcc_21 M v0 v1 = some res) (ko : (fun z => mm_q g 0 0 (some (mm_i z.1)) z.2) res) : mm_X g 0 0 M 21 [(0, mm_i v0), (1, mm_i v1)] [] := by
  unfold f_J8_newLength_cabcc_21 at hf
  refine xr_iload_n 22 0 C dJ8_newLength_cabcc_21 rfl rfl rfl ?_
  refine xr_iload_n 23 1 C dJ8_newLength_cabcc_22 rfl rfl rfl ?_
  obtain ⟨x23, M23, h23, hf⟩ := mm_b2_e hf
  refine xr_callS 26 C [mm_i v0, mm_i v1] cm_J8_201 (fun l G cy => c_J8_hugeLength_7cf53 l G cy h23) rfl rfl ⟨⟨Nat.le_of_ble_eq_true rfl, Nat.le_of_ble_eq_true rfl⟩, (Nat.le_of_ble_eq_true rfl), (Nat.le_of_ble_eq_true rfl)⟩ (Nat.le_of_ble_eq_true rfl) dJ8_newLength_cabcc_23 rfl ?_
  obtain rfl := Option.some.inj hf
  exact xr_iret C ko ⟨(Nat.le_of_ble_eq_true rfl), (Nat.le_of_ble_eq_true rfl)⟩ dJ8_newLength_cabcc_26
noncomputable def f_J8_newLength_cabcc_13 (M : mm_M) (v0 : Int32) (v1 : Int32) (v3 : Int32) : Option (Int32 × mm_M) :=
  if 2147483639 < v3 then f_J8_newLength_cabcc_21 M v0 v1 else f_J8_newLength_cabcc_19 M v3
set_option maxRecDepth 20000 in
theorem w_J8_newLength_cabcc_13 {g : mm_c} (C : mm_ok g cJ8_newLength_cabcc "jdk/internal/util/ArraysSupport" (some .int) "newLength" 4 1 22 0 0) {M : mm_M} {v0 : Int32} {v1 : Int32} {v3 : Int32} {res : Int32 × mm_M} (hf : f_J8_newLength_cabcc_13 M v0 v1 v3 = some res) (ko : (fun z => mm_q g 0 0 (some (mm_i z.1)) z.2) res) : mm_X g 0 0 M 13 [(0, mm_i v0), (1, mm_i v1), (3, mm_i v3)] [] := by
  unfold f_J8_newLength_cabcc_13 at hf
  refine xr_iload_n 14 2 C dJ8_newLength_cabcc_13 rfl rfl rfl ?_
  refine xr_ldc 16 C wd_323 dJ8_newLength_cabcc_14 rfl ?_
  refine xr_icmp_gt 21 19 C dJ8_newLength_cabcc_16 (by decide) rfl (fun hc => ?_) (fun hc => ?_)
  · replace hf := (if_pos hc).symm.trans hf
    refine xr_sub [0, 1] (lv2 := [(0, mm_i v0), (1, mm_i v1)]) rfl ?_
    exact w_J8_newLength_cabcc_21 C hf ko
  · replace hf := (if_neg hc).symm.trans hf
    refine xr_sub [2] (lv2 := [(3, mm_i v3)]) rfl ?_
    exact w_J8_newLength_cabcc_19 C hf ko
noncomputable def f_J8_newLength_cabcc_0 (M : mm_M) (v0 : Int32) (v1 : Int32) (v2 : Int32) : Option (Int32 × mm_M) :=
  if (v0 + (if v1 < v2 then v2 else v1)) ≤ 0 then f_J8_newLength_cabcc_21 M v0 v1 else f_J8_newLength_cabcc_13 M v0 v1 (v0 + (if v1 < v2 then v2 else v1))
set_option maxRecDepth 20000 in
theorem w_J8_newLength_cabcc_0 {g : mm_c} (C : mm_ok g cJ8_newLength_cabcc "jdk/internal/util/ArraysSupport" (some .int) "newLength" 4 1 22 0 0) {M : mm_M} {v0 : Int32} {v1 : Int32} {v2 : Int32} {res : Int32 × mm_M} (hf : f_J8_newLength_cabcc_0 M v0 v1 v2 = some res) (ko : (fun z => mm_q g 0 0 (some (mm_i z.1)) z.2) res) : mm_X g 0 0 M 0 [(0, mm_i v0), (1, mm_i v1), (2, mm_i v2)] [] := by
  unfold f_J8_newLength_cabcc_0 at hf
  refine xr_iload_n 1 0 C dJ8_newLength_cabcc_0 rfl rfl rfl ?_
  refine xr_iload_n 2 1 C dJ8_newLength_cabcc_1 rfl rfl rfl ?_
  refine xr_iload_n 3 2 C dJ8_newLength_cabcc_2 rfl rfl rfl ?_
  refine xr_mmax 6 C wd_320 wd_321 wd_59 wd_322 ⟨Nat.le_of_ble_eq_true rfl, Nat.le_of_ble_eq_true rfl, (Nat.le_of_ble_eq_true rfl), (Nat.le_of_ble_eq_true rfl)⟩ (Nat.le_of_ble_eq_true rfl) dJ8_newLength_cabcc_3 rfl ?_
  refine xr_iadd 7 C dJ8_newLength_cabcc_6 rfl ?_
  refine xr_istore_n 8 C dJ8_newLength_cabcc_7 rfl (by decide) rfl [(3, mm_i (v0 + (if v1 < v2 then v2 else v1))), (0, mm_i v0), (1, mm_i v1), (2, mm_i v2)] rfl ?_
  refine xr_iconst 9 C (v := 0) dJ8_newLength_cabcc_8 (by decide) rfl ?_
  refine xr_iload_n 10 0 C dJ8_newLength_cabcc_9 rfl rfl rfl ?_
  refine xr_icmp_ge 21 13 C dJ8_newLength_cabcc_10 (by decide) rfl (fun hc => ?_) (fun hc => ?_)
  · replace hf := (if_pos hc).symm.trans hf
    refine xr_sub [1, 2] (lv2 := [(0, mm_i v0), (1, mm_i v1)]) rfl ?_
    exact w_J8_newLength_cabcc_21 C hf ko
  · replace hf := (if_neg hc).symm.trans hf
    refine xr_sub [1, 2, 0] (lv2 := [(0, mm_i v0), (1, mm_i v1), (3, mm_i (v0 + (if v1 < v2 then v2 else v1)))]) rfl ?_
    exact w_J8_newLength_cabcc_13 C hf ko
noncomputable def f_J8_newLength_cabcc (M : mm_M) (v0 : Int32) (v1 : Int32) (v2 : Int32) : Option (Int32 × mm_M) := f_J8_newLength_cabcc_0 M v0 v1 v2
theorem c_J8_newLength_cabcc (l : Launch) (G : va_G) (cy : Nat → ClassId) {M : mm_M} {v0 : Int32} {v1 : Int32} {v2 : Int32} {r : Int32} {M1 : mm_M} (hf : f_J8_newLength_cabcc M v0 v1 v2 = some (r, M1)) : mm_Met l yJ8_newLength_cabcc cJ8_newLength_cabcc 4 (some .int) 1 22 0 0 G cy [mm_i v0, mm_i v1, mm_i v2] M (some (mm_i r)) M1 :=
  mm_enter (by decide) (Nat.le_of_ble_eq_true rfl) (fun p e R s m args below meth c Q C hq => xr_sub [0, 1, 2] (lv2 := [(0, mm_i v0), (1, mm_i v1), (2, mm_i v2)]) rfl (w_J8_newLength_cabcc_0 C hf hq))
noncomputable def f_Jx4a65c_grow_92f84_20 (M : mm_M) (v0 : Option Nat) (v1 : Int32) (v2 : Int32) : Option (Option Nat × mm_M) :=
  mm_b2 (f_J8_newLength_cabcc M v2 (v1 - v2) (v2 >>> (1 &&& 31))) fun x27 M27 =>
  (mm_fR M27 v0 0 1).bind fun x33 =>
  mm_b2 (f_J7_copyOf_1904c M27 x33 x27) fun x37 M37 =>
  (mm_pR M37 v0 0 1 x37).bind fun M41 =>
  some (x37, M41)
set_option maxRecDepth 20000 in
theorem w_Jx4a65c_grow_92f84_20 {g : mm_c} (C : mm_ok g cJx4a65c_grow_92f84 "java/util/ArrayList" (some (.array (.object "java/lang/Object"))) "grow" 4 4 85 1 1000) {M : mm_M} {v0 : Option Nat} {v1 : Int32} {v2 : Int32} {res : Option Nat × mm_M} (hf : f_Jx4a65c_grow_92f84_20 M v0 v1 v2 = some res) (ko : (fun z => mm_q g 1 1000 (some (mm_r z.1)) z.2) res) : mm_X g 0 0 M 20 [(0, mm_r v0), (1, mm_i v1), (2, mm_i v2)] [] := by
  unfold f_Jx4a65c_grow_92f84_20 at hf
  refine xr_iload_n 21 2 C dJx4a65c_grow_92f84_20 rfl rfl rfl ?_
  refine xr_iload_n 22 1 C dJx4a65c_grow_92f84_21 rfl rfl rfl ?_
  refine xr_iload_n 23 2 C dJx4a65c_grow_92f84_22 rfl rfl rfl ?_
  refine xr_isub 24 C dJx4a65c_grow_92f84_23 rfl ?_
  refine xr_iload_n 25 2 C dJx4a65c_grow_92f84_24 rfl rfl rfl ?_
  refine xr_iconst 26 C (v := 1) dJx4a65c_grow_92f84_25 (by decide) rfl ?_
  refine xr_ishr 27 C dJx4a65c_grow_92f84_26 rfl ?_
  obtain ⟨x27, M27, h27, hf⟩ := mm_b2_e hf
  refine xr_callS 30 C [mm_i v2, mm_i (v1 - v2), mm_i (v2 >>> (1 &&& 31))] cm_Jx4a65c_73 (fun l G cy => c_J8_newLength_cabcc l G cy h27) rfl rfl ⟨⟨Nat.le_of_ble_eq_true rfl, Nat.le_of_ble_eq_true rfl⟩, (Nat.le_of_ble_eq_true rfl), (Nat.le_of_ble_eq_true rfl)⟩ (Nat.le_of_ble_eq_true rfl) dJx4a65c_grow_92f84_27 rfl ?_
  refine xr_istore_n 31 C dJx4a65c_grow_92f84_30 rfl (by decide) rfl [(3, mm_i x27), (0, mm_r v0), (1, mm_i v1), (2, mm_i v2)] rfl ?_
  refine xr_aload_n 32 1 C dJx4a65c_grow_92f84_31 rfl rfl rfl ?_
  refine xr_aload_n 33 1 C dJx4a65c_grow_92f84_32 rfl rfl rfl ?_
  obtain ⟨x33, h33, hf⟩ := mm_bd_e hf
  refine xr_getR 36 C cf_Jx4a65c_9 rfl h33 dJx4a65c_grow_92f84_33 rfl ?_
  refine xr_iload_n 37 0 C dJx4a65c_grow_92f84_36 rfl rfl rfl ?_
  obtain ⟨x37, M37, h37, hf⟩ := mm_b2_e hf
  refine xr_callS 40 C [mm_r x33, mm_i x27] cm_Jx4a65c_66 (fun l G cy => c_J7_copyOf_1904c l G cy h37) rfl rfl ⟨⟨Nat.le_of_ble_eq_true rfl, Nat.le_of_ble_eq_true rfl⟩, (Nat.le_of_ble_eq_true rfl), (Nat.le_of_ble_eq_true rfl)⟩ (Nat.le_of_ble_eq_true rfl) dJx4a65c_grow_92f84_37 rfl ?_
  refine xr_dup_x1 41 C dJx4a65c_grow_92f84_40 rfl rfl rfl ?_
  obtain ⟨M41, h41, hf⟩ := mm_bd_e hf
  refine xr_putR 44 C cf_Jx4a65c_9 (fun h => by cases h) h41 dJx4a65c_grow_92f84_41 rfl ?_
  obtain rfl := Option.some.inj hf
  exact xr_aret (by first | exact Or.inl ⟨_, rfl⟩ | exact Or.inr ⟨_, rfl⟩) C ko ⟨(Nat.le_of_ble_eq_true rfl), (Nat.le_of_ble_eq_true rfl)⟩ dJx4a65c_grow_92f84_44
noncomputable def f_Jx4a65c_grow_92f84_45 (M : mm_M) (v0 : Option Nat) (v1 : Int32) : Option (Option Nat × mm_M) :=
  (mm_na M 17 (if 10 < v1 then v1 else 10) 1000).bind fun M52 =>
  (mm_pR M52 v0 0 1 (some (mm_n M))).bind fun M56 =>
  some ((some (mm_n M)), M56)
set_option maxRecDepth 20000 in
theorem w_Jx4a65c_grow_92f84_45 {g : mm_c} (C : mm_ok g cJx4a65c_grow_92f84 "java/util/ArrayList" (some (.array (.object "java/lang/Object"))) "grow" 4 4 85 1 1000) {M : mm_M} {v0 : Option Nat} {v1 : Int32} {res : Option Nat × mm_M} (hf : f_Jx4a65c_grow_92f84_45 M v0 v1 = some res) (ko : (fun z => mm_q g 1 1000 (some (mm_r z.1)) z.2) res) : mm_X g 0 0 M 45 [(0, mm_r v0), (1, mm_i v1)] [] := by
  unfold f_Jx4a65c_grow_92f84_45 at hf
  refine xr_aload_n 46 0 C dJx4a65c_grow_92f84_45 rfl rfl rfl ?_
  refine xr_bipush 48 C (v := 10) dJx4a65c_grow_92f84_46 (by decide) rfl ?_
  refine xr_iload_n 49 1 C dJx4a65c_grow_92f84_48 rfl rfl rfl ?_
  refine xr_mmax 52 C wd_358 wd_321 wd_59 wd_322 ⟨Nat.le_of_ble_eq_true rfl, Nat.le_of_ble_eq_true rfl, (Nat.le_of_ble_eq_true rfl), (Nat.le_of_ble_eq_true rfl)⟩ (Nat.le_of_ble_eq_true rfl) dJx4a65c_grow_92f84_49 rfl ?_
  obtain ⟨M52, h52, hf⟩ := mm_bd_e hf
  refine xr_newq 55 C (lim := 1000) (by decide) (by decide) wd_359 h52 dJx4a65c_grow_92f84_52 ⟨(Nat.le_of_ble_eq_true rfl), (Nat.le_of_ble_eq_true rfl)⟩ rfl ?_
  refine xr_dup_x1 56 C dJx4a65c_grow_92f84_55 rfl rfl rfl ?_
  obtain ⟨M56, h56, hf⟩ := mm_bd_e hf
  refine xr_putR 59 C cf_Jx4a65c_9 (fun h => by cases h) h56 dJx4a65c_grow_92f84_56 rfl ?_
  obtain rfl := Option.some.inj hf
  exact xr_aret (by first | exact Or.inl ⟨_, rfl⟩ | exact Or.inr ⟨_, rfl⟩) C ko ⟨(Nat.le_of_ble_eq_true rfl), (Nat.le_of_ble_eq_true rfl)⟩ dJx4a65c_grow_92f84_59
noncomputable def f_Jx4a65c_grow_92f84_10 (M : mm_M) (v0 : Option Nat) (v1 : Int32) (v2 : Int32) : Option (Option Nat × mm_M) :=
  (mm_fR M v0 0 1).bind fun x11 =>
  if x11 = (some (mm_z M)) then f_Jx4a65c_grow_92f84_45 M v0 v1 else f_Jx4a65c_grow_92f84_20 M v0 v1 v2
set_option maxRecDepth 20000 in
theorem w_Jx4a65c_grow_92f84_10 {g : mm_c} (C : mm_ok g cJx4a65c_grow_92f84 "java/util/ArrayList" (some (.array (.object "java/lang/Object"))) "grow" 4 4 85 1 1000) {M : mm_M} {v0 : Option Nat} {v1 : Int32} {v2 : Int32} {res : Option Nat × mm_M} (hf : f_Jx4a65c_grow_92f84_10 M v0 v1 v2 = some res) (ko : (fun z => mm_q g 1 1000 (some (mm_r z.1)) z.2) res) : mm_X g 0 0 M 10 [(0, mm_r v0), (1, mm_i v1), (2, mm_i v2)] [] := by
  unfold f_Jx4a65c_grow_92f84_10 at hf
  refine xr_aload_n 11 0 C dJx4a65c_grow_92f84_10 rfl rfl rfl ?_
  obtain ⟨x11, h11, hf⟩ := mm_bd_e hf
  refine xr_getR 14 C cf_Jx4a65c_9 rfl h11 dJx4a65c_grow_92f84_11 rfl ?_
  refine xr_gets 17 C wd_107 dJx4a65c_grow_92f84_14 rfl ?_
  refine xr_acmp_eq 45 20 C dJx4a65c_grow_92f84_17 (by decide) rfl (fun hc => ?_) (fun hc => ?_)
  · replace hf := (if_pos hc).symm.trans hf
    refine xr_sub [0, 1] (lv2 := [(0, mm_r v0), (1, mm_i v1)]) rfl ?_
    exact w_Jx4a65c_grow_92f84_45 C hf ko
  · replace hf := (if_neg hc).symm.trans hf
    exact w_Jx4a65c_grow_92f84_20 C hf ko
noncomputable def f_Jx4a65c_grow_92f84_0 (M : mm_M) (v0 : Option Nat) (v1 : Int32) : Option (Option Nat × mm_M) :=
  (mm_fR M v0 0 1).bind fun x1 =>
  (mm_ln M x1).bind fun x4 =>
  if 0 < x4 then f_Jx4a65c_grow_92f84_20 M v0 v1 x4 else f_Jx4a65c_grow_92f84_10 M v0 v1 x4
set_option maxRecDepth 20000 in
theorem w_Jx4a65c_grow_92f84_0 {g : mm_c} (C : mm_ok g cJx4a65c_grow_92f84 "java/util/ArrayList" (some (.array (.object "java/lang/Object"))) "grow" 4 4 85 1 1000) {M : mm_M} {v0 : Option Nat} {v1 : Int32} {res : Option Nat × mm_M} (hf : f_Jx4a65c_grow_92f84_0 M v0 v1 = some res) (ko : (fun z => mm_q g 1 1000 (some (mm_r z.1)) z.2) res) : mm_X g 0 0 M 0 [(0, mm_r v0), (1, mm_i v1)] [] := by
  unfold f_Jx4a65c_grow_92f84_0 at hf
  refine xr_aload_n 1 0 C dJx4a65c_grow_92f84_0 rfl rfl rfl ?_
  obtain ⟨x1, h1, hf⟩ := mm_bd_e hf
  refine xr_getR 4 C cf_Jx4a65c_9 rfl h1 dJx4a65c_grow_92f84_1 rfl ?_
  obtain ⟨x4, h4, hf⟩ := mm_bd_e hf
  refine xr_alen 5 C h4 dJx4a65c_grow_92f84_4 rfl ?_
  refine xr_istore_n 6 C dJx4a65c_grow_92f84_5 rfl (by decide) rfl [(2, mm_i x4), (0, mm_r v0), (1, mm_i v1)] rfl ?_
  refine xr_iload_n 7 0 C dJx4a65c_grow_92f84_6 rfl rfl rfl ?_
  refine xr_if_gt 20 10 C dJx4a65c_grow_92f84_7 (by decide) rfl (fun hc => ?_) (fun hc => ?_)
  · replace hf := (if_pos hc).symm.trans hf
    refine xr_sub [1, 2, 0] (lv2 := [(0, mm_r v0), (1, mm_i v1), (2, mm_i x4)]) rfl ?_
    exact w_Jx4a65c_grow_92f84_20 C hf ko
  · replace hf := (if_neg hc).symm.trans hf
    refine xr_sub [1, 2, 0] (lv2 := [(0, mm_r v0), (1, mm_i v1), (2, mm_i x4)]) rfl ?_
    exact w_Jx4a65c_grow_92f84_10 C hf ko
noncomputable def f_Jx4a65c_grow_92f84 (M : mm_M) (v0 : Option Nat) (v1 : Int32) : Option (Option Nat × mm_M) := f_Jx4a65c_grow_92f84_0 M v0 v1
theorem c_Jx4a65c_grow_92f84 (l : Launch) (G : va_G) (cy : Nat → ClassId) {M : mm_M} {v0 : Option Nat} {v1 : Int32} {r : Option Nat} {M1 : mm_M} (hf : f_Jx4a65c_grow_92f84 M v0 v1 = some (r, M1)) : mm_Met l yJx4a65c_grow_92f84 cJx4a65c_grow_92f84 4 (some (.array (.object "java/lang/Object"))) 4 85 1 1000 G cy [mm_r v0, mm_i v1] M (some (mm_r r)) M1 :=
  mm_enter (by decide) (Nat.le_of_ble_eq_true rfl) (fun p e R s m args below meth c Q C hq => xr_sub [0, 1] (lv2 := [(0, mm_r v0), (1, mm_i v1)]) rfl (w_Jx4a65c_grow_92f84_0 C hf hq))
noncomputable def f_Jx4a65c_grow_d5877_0 (M : mm_M) (v0 : Option Nat) : Option (Option Nat × mm_M) :=
  (mm_fI M v0 0 2).bind fun x2 =>
  (mm_rc M v0 0).bind fun u7 =>
  mm_b2 (f_Jx4a65c_grow_92f84 M v0 (x2 + 1)) fun x7 M7 =>
  some (x7, M7)
set_option maxRecDepth 20000 in
theorem w_Jx4a65c_grow_d5877_0 {g : mm_c} (C : mm_ok g cJx4a65c_grow_d5877 "java/util/ArrayList" (some (.array (.object "java/lang/Object"))) "grow" 1 5 108 1 1000) {M : mm_M} {v0 : Option Nat} {res : Option Nat × mm_M} (hf : f_Jx4a65c_grow_d5877_0 M v0 = some res) (ko : (fun z => mm_q g 1 1000 (some (mm_r z.1)) z.2) res) : mm_X g 0 0 M 0 [(0, mm_r v0)] [] := by
  unfold f_Jx4a65c_grow_d5877_0 at hf
  refine xr_aload_n 1 0 C dJx4a65c_grow_d5877_0 rfl rfl rfl ?_
  refine xr_aload_n 2 0 C dJx4a65c_grow_d5877_1 rfl rfl rfl ?_
  obtain ⟨x2, h2, hf⟩ := mm_bd_e hf
  refine xr_getI 5 C cf_Jx4a65c_48 rfl h2 dJx4a65c_grow_d5877_2 rfl ?_
  refine xr_iconst 6 C (v := 1) dJx4a65c_grow_d5877_5 (by decide) rfl ?_
  refine xr_iadd 7 C dJx4a65c_grow_d5877_6 rfl ?_
  obtain ⟨u7, g7, hf⟩ := mm_bd_e hf
  obtain ⟨x7, M7, h7, hf⟩ := mm_b2_e hf
  refine xr_callV 10 C [mm_i (x2 + 1)] cm_Jx4a65c_69 (fun l G cy => c_Jx4a65c_grow_92f84 l G cy h7) g7 rfl rfl ⟨⟨Nat.le_of_ble_eq_true rfl, Nat.le_of_ble_eq_true rfl⟩, (Nat.le_of_ble_eq_true rfl), (Nat.le_of_ble_eq_true rfl)⟩ (Nat.le_of_ble_eq_true rfl) dJx4a65c_grow_d5877_7 rfl ?_
  obtain rfl := Option.some.inj hf
  exact xr_aret (by first | exact Or.inl ⟨_, rfl⟩ | exact Or.inr ⟨_, rfl⟩) C ko ⟨(Nat.le_of_ble_eq_true rfl), (Nat.le_of_ble_eq_true rfl)⟩ dJx4a65c_grow_d5877_10
noncomputable def f_Jx4a65c_grow_d5877 (M : mm_M) (v0 : Option Nat) : Option (Option Nat × mm_M) := f_Jx4a65c_grow_d5877_0 M v0
theorem c_Jx4a65c_grow_d5877 (l : Launch) (G : va_G) (cy : Nat → ClassId) {M : mm_M} {v0 : Option Nat} {r : Option Nat} {M1 : mm_M} (hf : f_Jx4a65c_grow_d5877 M v0 = some (r, M1)) : mm_Met l yJx4a65c_grow_d5877 cJx4a65c_grow_d5877 1 (some (.array (.object "java/lang/Object"))) 5 108 1 1000 G cy [mm_r v0] M (some (mm_r r)) M1 :=
  mm_enter (by decide) (Nat.le_of_ble_eq_true rfl) (fun p e R s m args below meth c Q C hq => xr_sub [0] (lv2 := [(0, mm_r v0)]) rfl (w_Jx4a65c_grow_d5877_0 C hf hq))
noncomputable def f_Jx4a65c_add_72be8_11 (M : mm_M) (v0 : Option Nat) (v1 : Option Nat) (v2 : Option Nat) (v3 : Int32) : Option (mm_M) :=
  (mm_tR M v2 17 v3 v1).bind fun M14 =>
  (mm_pI M14 v0 0 2 (v3 + 1)).bind fun M19 =>
  some M19
set_option maxRecDepth 20000 in
theorem w_Jx4a65c_add_72be8_11 {g : mm_c} (C : mm_ok g cJx4a65c_add_72be8 "java/util/ArrayList" none "add" 4 6 128 1 1000) {M : mm_M} {v0 : Option Nat} {v1 : Option Nat} {v2 : Option Nat} {v3 : Int32} {res : mm_M} (hf : f_Jx4a65c_add_72be8_11 M v0 v1 v2 v3 = some res) (ko : (fun z => mm_q g 1 1000 none z) res) : mm_X g 1 1000 M 11 [(0, mm_r v0), (1, mm_r v1), (2, mm_r v2), (3, mm_i v3)] [] := by
  unfold f_Jx4a65c_add_72be8_11 at hf
  refine xr_aload_n 12 2 C dJx4a65c_add_72be8_11 rfl rfl rfl ?_
  refine xr_iload_n 13 3 C dJx4a65c_add_72be8_12 rfl rfl rfl ?_
  refine xr_aload_n 14 1 C dJx4a65c_add_72be8_13 rfl rfl rfl ?_
  obtain ⟨M14, h14, hf⟩ := mm_bd_e hf
  refine xr_astR 15 C 17 (by decide) h14 dJx4a65c_add_72be8_14 rfl ?_
  refine xr_aload_n 16 0 C dJx4a65c_add_72be8_15 rfl rfl rfl ?_
  refine xr_iload_n 17 3 C dJx4a65c_add_72be8_16 rfl rfl rfl ?_
  refine xr_iconst 18 C (v := 1) dJx4a65c_add_72be8_17 (by decide) rfl ?_
  refine xr_iadd 19 C dJx4a65c_add_72be8_18 rfl ?_
  obtain ⟨M19, h19, hf⟩ := mm_bd_e hf
  refine xr_putI 22 C cf_Jx4a65c_48 (fun h => by cases h) h19 dJx4a65c_add_72be8_19 rfl ?_
  obtain rfl := Option.some.inj hf
  exact xr_vret C ko ⟨(Nat.le_of_ble_eq_true rfl), (Nat.le_of_ble_eq_true rfl)⟩ dJx4a65c_add_72be8_22
noncomputable def f_Jx4a65c_add_72be8_6 (M : mm_M) (v0 : Option Nat) (v1 : Option Nat) (v3 : Int32) : Option (mm_M) :=
  (mm_rc M v0 0).bind fun u7 =>
  mm_b2 (f_Jx4a65c_grow_d5877 M v0) fun x7 M7 =>
  f_Jx4a65c_add_72be8_11 M7 v0 v1 x7 v3
set_option maxRecDepth 20000 in
theorem w_Jx4a65c_add_72be8_6 {g : mm_c} (C : mm_ok g cJx4a65c_add_72be8 "java/util/ArrayList" none "add" 4 6 128 1 1000) {M : mm_M} {v0 : Option Nat} {v1 : Option Nat} {v3 : Int32} {res : mm_M} (hf : f_Jx4a65c_add_72be8_6 M v0 v1 v3 = some res) (ko : (fun z => mm_q g 1 1000 none z) res) : mm_X g 0 0 M 6 [(0, mm_r v0), (1, mm_r v1), (3, mm_i v3)] [] := by
  unfold f_Jx4a65c_add_72be8_6 at hf
  refine xr_aload_n 7 0 C dJx4a65c_add_72be8_6 rfl rfl rfl ?_
  obtain ⟨u7, g7, hf⟩ := mm_bd_e hf
  obtain ⟨x7, M7, h7, hf⟩ := mm_b2_e hf
  refine xr_callV 10 C [] cm_Jx4a65c_129 (fun l G cy => c_Jx4a65c_grow_d5877 l G cy h7) g7 rfl rfl ⟨⟨Nat.le_of_ble_eq_true rfl, Nat.le_of_ble_eq_true rfl⟩, (Nat.le_of_ble_eq_true rfl), (Nat.le_of_ble_eq_true rfl)⟩ (Nat.le_of_ble_eq_true rfl) dJx4a65c_add_72be8_7 rfl ?_
  refine xr_astore_n 11 C dJx4a65c_add_72be8_10 rfl (by decide) rfl [(2, mm_r x7), (0, mm_r v0), (1, mm_r v1), (3, mm_i v3)] rfl ?_
  refine xr_sub [1, 2, 0, 3] (lv2 := [(0, mm_r v0), (1, mm_r v1), (2, mm_r x7), (3, mm_i v3)]) rfl ?_
  exact w_Jx4a65c_add_72be8_11 C hf ko
noncomputable def f_Jx4a65c_add_72be8_0 (M : mm_M) (v0 : Option Nat) (v1 : Option Nat) (v2 : Option Nat) (v3 : Int32) : Option (mm_M) :=
  (mm_ln M v2).bind fun x2 =>
  if v3 = x2 then f_Jx4a65c_add_72be8_6 M v0 v1 v3 else f_Jx4a65c_add_72be8_11 M v0 v1 v2 v3
set_option maxRecDepth 20000 in
theorem w_Jx4a65c_add_72be8_0 {g : mm_c} (C : mm_ok g cJx4a65c_add_72be8 "java/util/ArrayList" none "add" 4 6 128 1 1000) {M : mm_M} {v0 : Option Nat} {v1 : Option Nat} {v2 : Option Nat} {v3 : Int32} {res : mm_M} (hf : f_Jx4a65c_add_72be8_0 M v0 v1 v2 v3 = some res) (ko : (fun z => mm_q g 1 1000 none z) res) : mm_X g 0 0 M 0 [(0, mm_r v0), (1, mm_r v1), (2, mm_r v2), (3, mm_i v3)] [] := by
  unfold f_Jx4a65c_add_72be8_0 at hf
  refine xr_iload_n 1 3 C dJx4a65c_add_72be8_0 rfl rfl rfl ?_
  refine xr_aload_n 2 2 C dJx4a65c_add_72be8_1 rfl rfl rfl ?_
  obtain ⟨x2, h2, hf⟩ := mm_bd_e hf
  refine xr_alen 3 C h2 dJx4a65c_add_72be8_2 rfl ?_
  refine xr_icmp_ne 11 6 C dJx4a65c_add_72be8_3 (by decide) rfl (fun hc => ?_) (fun hc => ?_)
  · replace hf := (if_neg hc).symm.trans hf
    refine xr_widen (k := 1) (n := 1000) (by omega) (by omega) ?_
    exact w_Jx4a65c_add_72be8_11 C hf ko
  · replace hf := (if_pos hc).symm.trans hf
    refine xr_sub [0, 1, 3] (lv2 := [(0, mm_r v0), (1, mm_r v1), (3, mm_i v3)]) rfl ?_
    exact w_Jx4a65c_add_72be8_6 C hf ko
noncomputable def f_Jx4a65c_add_72be8 (M : mm_M) (v0 : Option Nat) (v1 : Option Nat) (v2 : Option Nat) (v3 : Int32) : Option (mm_M) := f_Jx4a65c_add_72be8_0 M v0 v1 v2 v3
theorem c_Jx4a65c_add_72be8 (l : Launch) (G : va_G) (cy : Nat → ClassId) {M : mm_M} {v0 : Option Nat} {v1 : Option Nat} {v2 : Option Nat} {v3 : Int32} {M1 : mm_M} (hf : f_Jx4a65c_add_72be8 M v0 v1 v2 v3 = some M1) : mm_Met l yJx4a65c_add_72be8 cJx4a65c_add_72be8 4 none 6 128 1 1000 G cy [mm_r v0, mm_r v1, mm_r v2, mm_i v3] M none M1 :=
  mm_enter (by decide) (Nat.le_of_ble_eq_true rfl) (fun p e R s m args below meth c Q C hq => xr_sub [0, 1, 2, 3] (lv2 := [(0, mm_r v0), (1, mm_r v1), (2, mm_r v2), (3, mm_i v3)]) rfl (w_Jx4a65c_add_72be8_0 C hf hq))
noncomputable def f_Jx4a65c_add_9ea2d_0 (M : mm_M) (v0 : Option Nat) (v1 : Option Nat) : Option (Int32 × mm_M) :=
  (mm_fI M v0 0 0).bind fun x2 =>
  (mm_pI M v0 0 0 (x2 + 1)).bind fun M7 =>
  (mm_fR M7 v0 0 1).bind fun x13 =>
  (mm_fI M7 v0 0 2).bind fun x17 =>
  (mm_rc M7 v0 0).bind fun u20 =>
  (f_Jx4a65c_add_72be8 M7 v0 v1 x13 x17).bind fun M20 =>
  some (1, M20)
set_option maxRecDepth 20000 in
theorem w_Jx4a65c_add_9ea2d_0 {g : mm_c} (C : mm_ok g cJx4a65c_add_9ea2d "java/util/ArrayList" (some .boolean) "add" 2 7 151 1 1000) {M : mm_M} {v0 : Option Nat} {v1 : Option Nat} {res : Int32 × mm_M} (hf : f_Jx4a65c_add_9ea2d_0 M v0 v1 = some res) (ko : (fun z => mm_q g 1 1000 (some (mm_i z.1)) z.2) res) : mm_X g 0 0 M 0 [(0, mm_r v0), (1, mm_r v1)] [] := by
  unfold f_Jx4a65c_add_9ea2d_0 at hf
  refine xr_aload_n 1 0 C dJx4a65c_add_9ea2d_0 rfl rfl rfl ?_
  refine xr_dup 2 C dJx4a65c_add_9ea2d_1 rfl rfl ?_
  obtain ⟨x2, h2, hf⟩ := mm_bd_e hf
  refine xr_getI 5 C cf_Jx4a65c_63 rfl h2 dJx4a65c_add_9ea2d_2 rfl ?_
  refine xr_iconst 6 C (v := 1) dJx4a65c_add_9ea2d_5 (by decide) rfl ?_
  refine xr_iadd 7 C dJx4a65c_add_9ea2d_6 rfl ?_
  obtain ⟨M7, h7, hf⟩ := mm_bd_e hf
  refine xr_putI 10 C cf_Jx4a65c_63 (fun h => by cases h) h7 dJx4a65c_add_9ea2d_7 rfl ?_
  refine xr_aload_n 11 0 C dJx4a65c_add_9ea2d_10 rfl rfl rfl ?_
  refine xr_aload_n 12 1 C dJx4a65c_add_9ea2d_11 rfl rfl rfl ?_
  refine xr_aload_n 13 0 C dJx4a65c_add_9ea2d_12 rfl rfl rfl ?_
  obtain ⟨x13, h13, hf⟩ := mm_bd_e hf
  refine xr_getR 16 C cf_Jx4a65c_9 rfl h13 dJx4a65c_add_9ea2d_13 rfl ?_
  refine xr_aload_n 17 0 C dJx4a65c_add_9ea2d_16 rfl rfl rfl ?_
  obtain ⟨x17, h17, hf⟩ := mm_bd_e hf
  refine xr_getI 20 C cf_Jx4a65c_48 rfl h17 dJx4a65c_add_9ea2d_17 rfl ?_
  obtain ⟨u20, g20, hf⟩ := mm_bd_e hf
  obtain ⟨M20, h20, hf⟩ := mm_bd_e hf
  refine xr_callV 23 C [mm_r v1, mm_r x13, mm_i x17] cm_Jx4a65c_131 (fun l G cy => c_Jx4a65c_add_72be8 l G cy h20) g20 rfl rfl ⟨⟨Nat.le_of_ble_eq_true rfl, Nat.le_of_ble_eq_true rfl⟩, (Nat.le_of_ble_eq_true rfl), (Nat.le_of_ble_eq_true rfl)⟩ (Nat.le_of_ble_eq_true rfl) dJx4a65c_add_9ea2d_20 rfl ?_
  refine xr_iconst 24 C (v := 1) dJx4a65c_add_9ea2d_23 (by decide) rfl ?_
  obtain rfl := Option.some.inj hf
  exact xr_zret C (by decide) ko ⟨(Nat.le_of_ble_eq_true rfl), (Nat.le_of_ble_eq_true rfl)⟩ dJx4a65c_add_9ea2d_24
noncomputable def f_Jx4a65c_add_9ea2d (M : mm_M) (v0 : Option Nat) (v1 : Option Nat) : Option (Int32 × mm_M) := f_Jx4a65c_add_9ea2d_0 M v0 v1
theorem c_Jx4a65c_add_9ea2d (l : Launch) (G : va_G) (cy : Nat → ClassId) {M : mm_M} {v0 : Option Nat} {v1 : Option Nat} {r : Int32} {M1 : mm_M} (hf : f_Jx4a65c_add_9ea2d M v0 v1 = some (r, M1)) : mm_Met l yJx4a65c_add_9ea2d cJx4a65c_add_9ea2d 2 (some .boolean) 7 151 1 1000 G cy [mm_r v0, mm_r v1] M (some (mm_i r)) M1 :=
  mm_enter (by decide) (Nat.le_of_ble_eq_true rfl) (fun p e R s m args below meth c Q C hq => xr_sub [0, 1] (lv2 := [(0, mm_r v0), (1, mm_r v1)]) rfl (w_Jx4a65c_add_9ea2d_0 C hf hq))
noncomputable def f_X2_addCard_0 (M : mm_M) (v0 : Option Nat) : Option (Int32 × mm_M) :=
  (mm_fR M v0 3 0).bind fun x1 =>
  mm_le (mm_nw M (1, 0)) fun M4 =>
  (f_X0_init M4 (mm_n M)).bind fun M8 =>
  (mm_rc M8 x1 0).bind fun u11 =>
  mm_b2 (f_Jx4a65c_add_9ea2d M8 x1 (some (mm_n M))) fun x11 M11 =>
  (mm_fR M11 v0 3 0).bind fun x16 =>
  (mm_rc M11 x16 0).bind fun u19 =>
  (f_Jx4a65c_size_8abf5 M11 x16).bind fun x19 =>
  some ((x19 - 1), M11)
set_option maxRecDepth 20000 in
theorem w_X2_addCard_0 {g : mm_c} (C : mm_ok g cX2_addCard "LessonCards$Deck" (some .int) "addCard" 1 8 172 3 1006) {M : mm_M} {v0 : Option Nat} {res : Int32 × mm_M} (hf : f_X2_addCard_0 M v0 = some res) (ko : (fun z => mm_q g 3 1006 (some (mm_i z.1)) z.2) res) : mm_X g 0 0 M 0 [(0, mm_r v0)] [] := by
  unfold f_X2_addCard_0 at hf
  refine xr_aload_n 1 0 C dX2_addCard_0 rfl rfl rfl ?_
  obtain ⟨x1, h1, hf⟩ := mm_bd_e hf
  refine xr_getR 4 C cf_X2_12 rfl h1 dX2_addCard_1 rfl ?_
  obtain ⟨M4, h4, hf⟩ := mm_le_e hf
  refine xr_new 7 C (ci := 1) (Cn := RX0) (T := TX0) (N := 2) (ty := tyX0) rfl (by decide) in_X0 tyX0_ok nf_X0 wd_364 wd_365 wd_62 dX2_addCard_4 ⟨(Nat.le_of_ble_eq_true rfl), (Nat.le_of_ble_eq_true rfl)⟩ rfl h4 ?_
  refine xr_dup 8 C dX2_addCard_7 rfl rfl ?_
  obtain ⟨M8, h8, hf⟩ := mm_bd_e hf
  refine xr_callI 11 C [] cm_X2_32 (fun l G cy => c_X0_init l G cy h8) rfl rfl ⟨⟨Nat.le_of_ble_eq_true rfl, Nat.le_of_ble_eq_true rfl⟩, (Nat.le_of_ble_eq_true rfl), (Nat.le_of_ble_eq_true rfl)⟩ (Nat.le_of_ble_eq_true rfl) dX2_addCard_8 rfl ?_
  obtain ⟨u11, g11, hf⟩ := mm_bd_e hf
  obtain ⟨x11, M11, h11, hf⟩ := mm_b2_e hf
  refine xr_callV 14 C [mm_r (some (mm_n M))] cm_X2_33 (fun l G cy => c_Jx4a65c_add_9ea2d l G cy h11) g11 rfl rfl ⟨⟨Nat.le_of_ble_eq_true rfl, Nat.le_of_ble_eq_true rfl⟩, (Nat.le_of_ble_eq_true rfl), (Nat.le_of_ble_eq_true rfl)⟩ (Nat.le_of_ble_eq_true rfl) dX2_addCard_11 rfl ?_
  refine xr_pop 15 C dX2_addCard_14 rfl rfl ?_
  refine xr_aload_n 16 0 C dX2_addCard_15 rfl rfl rfl ?_
  obtain ⟨x16, h16, hf⟩ := mm_bd_e hf
  refine xr_getR 19 C cf_X2_12 rfl h16 dX2_addCard_16 rfl ?_
  obtain ⟨u19, g19, hf⟩ := mm_bd_e hf
  obtain ⟨x19, h19, hf⟩ := mm_bd_e hf
  refine xr_callV 22 C [] cm_X2_26 (fun l G cy => c_Jx4a65c_size_8abf5 l G cy h19) g19 rfl rfl ⟨⟨Nat.le_of_ble_eq_true rfl, Nat.le_of_ble_eq_true rfl⟩, (Nat.le_of_ble_eq_true rfl), (Nat.le_of_ble_eq_true rfl)⟩ (Nat.le_of_ble_eq_true rfl) dX2_addCard_19 rfl ?_
  refine xr_iconst 23 C (v := 1) dX2_addCard_22 (by decide) rfl ?_
  refine xr_isub 24 C dX2_addCard_23 rfl ?_
  obtain rfl := Option.some.inj hf
  exact xr_iret C ko ⟨(Nat.le_of_ble_eq_true rfl), (Nat.le_of_ble_eq_true rfl)⟩ dX2_addCard_24
noncomputable def f_X2_addCard (M : mm_M) (v0 : Option Nat) : Option (Int32 × mm_M) := f_X2_addCard_0 M v0
theorem c_X2_addCard (l : Launch) (G : va_G) (cy : Nat → ClassId) {M : mm_M} {v0 : Option Nat} {r : Int32} {M1 : mm_M} (hf : f_X2_addCard M v0 = some (r, M1)) : mm_Met l yX2_addCard cX2_addCard 1 (some .int) 8 172 3 1006 G cy [mm_r v0] M (some (mm_i r)) M1 :=
  mm_enter (by decide) (Nat.le_of_ble_eq_true rfl) (fun p e R s m args below meth c Q C hq => xr_sub [0] (lv2 := [(0, mm_r v0)]) rfl (w_X2_addCard_0 C hf hq))
noncomputable def f_J3_checkIndex_8e157_9 (M : mm_M) (v0 : Int32) (v1 : Int32) (v2 : Option Nat) : Option (Int32) :=
  none
set_option maxRecDepth 20000 in
theorem w_J3_checkIndex_8e157_9 {g : mm_c} (C : mm_ok g cJ3_checkIndex_8e157 "jdk/internal/util/Preconditions" (some .int) "checkIndex" 3 0 0 0 0) {M : mm_M} {v0 : Int32} {v1 : Int32} {v2 : Option Nat} {res : Int32} (hf : f_J3_checkIndex_8e157_9 M v0 v1 v2 = some res) (ko : (fun z => mm_q g 0 0 (some (mm_i z)) M) res) : mm_X g 0 0 M 9 [(0, mm_i v0), (1, mm_i v1), (2, mm_r v2)] [] := by
  unfold f_J3_checkIndex_8e157_9 at hf
  refine xr_aload_n 10 2 C dJ3_checkIndex_8e157_9 rfl rfl rfl ?_
  refine xr_iload_n 11 0 C dJ3_checkIndex_8e157_10 rfl rfl rfl ?_
  refine xr_iload_n 12 1 C dJ3_checkIndex_8e157_11 rfl rfl rfl ?_
  cases hf
noncomputable def f_J3_checkIndex_8e157_16 (M : mm_M) (v0 : Int32) : Option (Int32) :=
  some v0
set_option maxRecDepth 20000 in
theorem w_J3_checkIndex_8e157_16 {g : mm_c} (C : mm_ok g cJ3_checkIndex_8e157 "jdk/internal/util/Preconditions" (some .int) "checkIndex" 3 0 0 0 0) {M : mm_M} {v0 : Int32} {res : Int32} (hf : f_J3_checkIndex_8e157_16 M v0 = some res) (ko : (fun z => mm_q g 0 0 (some (mm_i z)) M) res) : mm_X g 0 0 M 16 [(0, mm_i v0)] [] := by
  unfold f_J3_checkIndex_8e157_16 at hf
  refine xr_iload_n 17 0 C dJ3_checkIndex_8e157_16 rfl rfl rfl ?_
  obtain rfl := Option.some.inj hf
  exact xr_iret C ko ⟨(Nat.le_of_ble_eq_true rfl), (Nat.le_of_ble_eq_true rfl)⟩ dJ3_checkIndex_8e157_17
noncomputable def f_J3_checkIndex_8e157_4 (M : mm_M) (v0 : Int32) (v1 : Int32) (v2 : Option Nat) : Option (Int32) :=
  if v0 < v1 then f_J3_checkIndex_8e157_16 M v0 else f_J3_checkIndex_8e157_9 M v0 v1 v2
set_option maxRecDepth 20000 in
theorem w_J3_checkIndex_8e157_4 {g : mm_c} (C : mm_ok g cJ3_checkIndex_8e157 "jdk/internal/util/Preconditions" (some .int) "checkIndex" 3 0 0 0 0) {M : mm_M} {v0 : Int32} {v1 : Int32} {v2 : Option Nat} {res : Int32} (hf : f_J3_checkIndex_8e157_4 M v0 v1 v2 = some res) (ko : (fun z => mm_q g 0 0 (some (mm_i z)) M) res) : mm_X g 0 0 M 4 [(0, mm_i v0), (1, mm_i v1), (2, mm_r v2)] [] := by
  unfold f_J3_checkIndex_8e157_4 at hf
  refine xr_iload_n 5 0 C dJ3_checkIndex_8e157_4 rfl rfl rfl ?_
  refine xr_iload_n 6 1 C dJ3_checkIndex_8e157_5 rfl rfl rfl ?_
  refine xr_icmp_lt 16 9 C dJ3_checkIndex_8e157_6 (by decide) rfl (fun hc => ?_) (fun hc => ?_)
  · replace hf := (if_pos hc).symm.trans hf
    refine xr_sub [0] (lv2 := [(0, mm_i v0)]) rfl ?_
    exact w_J3_checkIndex_8e157_16 C hf ko
  · replace hf := (if_neg hc).symm.trans hf
    exact w_J3_checkIndex_8e157_9 C hf ko
noncomputable def f_J3_checkIndex_8e157_0 (M : mm_M) (v0 : Int32) (v1 : Int32) (v2 : Option Nat) : Option (Int32) :=
  if v0 < 0 then f_J3_checkIndex_8e157_9 M v0 v1 v2 else f_J3_checkIndex_8e157_4 M v0 v1 v2
set_option maxRecDepth 20000 in
theorem w_J3_checkIndex_8e157_0 {g : mm_c} (C : mm_ok g cJ3_checkIndex_8e157 "jdk/internal/util/Preconditions" (some .int) "checkIndex" 3 0 0 0 0) {M : mm_M} {v0 : Int32} {v1 : Int32} {v2 : Option Nat} {res : Int32} (hf : f_J3_checkIndex_8e157_0 M v0 v1 v2 = some res) (ko : (fun z => mm_q g 0 0 (some (mm_i z)) M) res) : mm_X g 0 0 M 0 [(0, mm_i v0), (1, mm_i v1), (2, mm_r v2)] [] := by
  unfold f_J3_checkIndex_8e157_0 at hf
  refine xr_iload_n 1 0 C dJ3_checkIndex_8e157_0 rfl rfl rfl ?_
  refine xr_if_lt 9 4 C dJ3_checkIndex_8e157_1 (by decide) rfl (fun hc => ?_) (fun hc => ?_)
  · replace hf := (if_pos hc).symm.trans hf
    exact w_J3_checkIndex_8e157_9 C hf ko
  · replace hf := (if_neg hc).symm.trans hf
    exact w_J3_checkIndex_8e157_4 C hf ko
noncomputable def f_J3_checkIndex_8e157 (M : mm_M) (v0 : Int32) (v1 : Int32) (v2 : Option Nat) : Option (Int32) := f_J3_checkIndex_8e157_0 M v0 v1 v2
theorem c_J3_checkIndex_8e157 (l : Launch) (G : va_G) (cy : Nat → ClassId) {M : mm_M} {v0 : Int32} {v1 : Int32} {v2 : Option Nat} {r : Int32} (hf : f_J3_checkIndex_8e157 M v0 v1 v2 = some r) : mm_Met l yJ3_checkIndex_8e157 cJ3_checkIndex_8e157 3 (some .int) 0 0 0 0 G cy [mm_i v0, mm_i v1, mm_r v2] M (some (mm_i r)) M :=
  mm_enter (by decide) (Nat.le_of_ble_eq_true rfl) (fun p e R s m args below meth c Q C hq => xr_sub [0, 1, 2] (lv2 := [(0, mm_i v0), (1, mm_i v1), (2, mm_r v2)]) rfl (w_J3_checkIndex_8e157_0 C hf hq))
noncomputable def f_J15_checkIndex_7cf53_0 (M : mm_M) (v0 : Int32) (v1 : Int32) : Option (Int32) :=
  (f_J3_checkIndex_8e157 M v0 v1 none).bind fun x3 =>
  some x3
set_option maxRecDepth 20000 in
theorem w_J15_checkIndex_7cf53_0 {g : mm_c} (C : mm_ok g cJ15_checkIndex_7cf53 "java/util/Objects" (some .int) "checkIndex" 2 1 22 0 0) {M : mm_M} {v0 : Int32} {v1 : Int32} {res : Int32} (hf : f_J15_checkIndex_7cf53_0 M v0 v1 = some res) (ko : (fun z => mm_q g 0 0 (some (mm_i z)) M) res) : mm_X g 0 0 M 0 [(0, mm_i v0), (1, mm_i v1)] [] := by
  unfold f_J15_checkIndex_7cf53_0 at hf
  refine xr_iload_n 1 0 C dJ15_checkIndex_7cf53_0 rfl rfl rfl ?_
  refine xr_iload_n 2 1 C dJ15_checkIndex_7cf53_1 rfl rfl rfl ?_
  refine xr_null 3 C dJ15_checkIndex_7cf53_2 rfl ?_
  obtain ⟨x3, h3, hf⟩ := mm_bd_e hf
  refine xr_callS 6 C [mm_i v0, mm_i v1, mm_r none] cm_J15_105 (fun l G cy => c_J3_checkIndex_8e157 l G cy h3) rfl rfl ⟨⟨Nat.le_of_ble_eq_true rfl, Nat.le_of_ble_eq_true rfl⟩, (Nat.le_of_ble_eq_true rfl), (Nat.le_of_ble_eq_true rfl)⟩ (Nat.le_of_ble_eq_true rfl) dJ15_checkIndex_7cf53_3 rfl ?_
  obtain rfl := Option.some.inj hf
  exact xr_iret C ko ⟨(Nat.le_of_ble_eq_true rfl), (Nat.le_of_ble_eq_true rfl)⟩ dJ15_checkIndex_7cf53_6
noncomputable def f_J15_checkIndex_7cf53 (M : mm_M) (v0 : Int32) (v1 : Int32) : Option (Int32) := f_J15_checkIndex_7cf53_0 M v0 v1
theorem c_J15_checkIndex_7cf53 (l : Launch) (G : va_G) (cy : Nat → ClassId) {M : mm_M} {v0 : Int32} {v1 : Int32} {r : Int32} (hf : f_J15_checkIndex_7cf53 M v0 v1 = some r) : mm_Met l yJ15_checkIndex_7cf53 cJ15_checkIndex_7cf53 2 (some .int) 1 22 0 0 G cy [mm_i v0, mm_i v1] M (some (mm_i r)) M :=
  mm_enter (by decide) (Nat.le_of_ble_eq_true rfl) (fun p e R s m args below meth c Q C hq => xr_sub [0, 1] (lv2 := [(0, mm_i v0), (1, mm_i v1)]) rfl (w_J15_checkIndex_7cf53_0 C hf hq))
noncomputable def f_Jx4a65c_elementData_915e3_0 (M : mm_M) (v0 : Option Nat) (v1 : Int32) : Option (Option Nat) :=
  (mm_fR M v0 0 1).bind fun x1 =>
  (mm_aR M x1 17 v1).bind fun x5 =>
  some x5
set_option maxRecDepth 20000 in
theorem w_Jx4a65c_elementData_915e3_0 {g : mm_c} (C : mm_ok g cJx4a65c_elementData_915e3 "java/util/ArrayList" (some (.object "java/lang/Object")) "elementData" 2 0 0 0 0) {M : mm_M} {v0 : Option Nat} {v1 : Int32} {res : Option Nat} (hf : f_Jx4a65c_elementData_915e3_0 M v0 v1 = some res) (ko : (fun z => mm_q g 0 0 (some (mm_r z)) M) res) : mm_X g 0 0 M 0 [(0, mm_r v0), (1, mm_i v1)] [] := by
  unfold f_Jx4a65c_elementData_915e3_0 at hf
  refine xr_aload_n 1 0 C dJx4a65c_elementData_915e3_0 rfl rfl rfl ?_
  obtain ⟨x1, h1, hf⟩ := mm_bd_e hf
  refine xr_getR 4 C cf_Jx4a65c_9 rfl h1 dJx4a65c_elementData_915e3_1 rfl ?_
  refine xr_iload_n 5 1 C dJx4a65c_elementData_915e3_4 rfl rfl rfl ?_
  obtain ⟨x5, h5, hf⟩ := mm_bd_e hf
  refine xr_aldR 6 C 17 (by decide) h5 dJx4a65c_elementData_915e3_5 rfl ?_
  obtain rfl := Option.some.inj hf
  exact xr_aret (by first | exact Or.inl ⟨_, rfl⟩ | exact Or.inr ⟨_, rfl⟩) C ko ⟨(Nat.le_of_ble_eq_true rfl), (Nat.le_of_ble_eq_true rfl)⟩ dJx4a65c_elementData_915e3_6
noncomputable def f_Jx4a65c_elementData_915e3 (M : mm_M) (v0 : Option Nat) (v1 : Int32) : Option (Option Nat) := f_Jx4a65c_elementData_915e3_0 M v0 v1
theorem c_Jx4a65c_elementData_915e3 (l : Launch) (G : va_G) (cy : Nat → ClassId) {M : mm_M} {v0 : Option Nat} {v1 : Int32} {r : Option Nat} (hf : f_Jx4a65c_elementData_915e3 M v0 v1 = some r) : mm_Met l yJx4a65c_elementData_915e3 cJx4a65c_elementData_915e3 2 (some (.object "java/lang/Object")) 0 0 0 0 G cy [mm_r v0, mm_i v1] M (some (mm_r r)) M :=
  mm_enter (by decide) (Nat.le_of_ble_eq_true rfl) (fun p e R s m args below meth c Q C hq => xr_sub [0, 1] (lv2 := [(0, mm_r v0), (1, mm_i v1)]) rfl (w_Jx4a65c_elementData_915e3_0 C hf hq))
noncomputable def f_Jx4a65c_get_915e3_0 (M : mm_M) (v0 : Option Nat) (v1 : Int32) : Option (Option Nat) :=
  (mm_fI M v0 0 2).bind fun x2 =>
  (f_J15_checkIndex_7cf53 M v1 x2).bind fun x5 =>
  (mm_rc M v0 0).bind fun u11 =>
  (f_Jx4a65c_elementData_915e3 M v0 v1).bind fun x11 =>
  some x11
set_option maxRecDepth 20000 in
theorem w_Jx4a65c_get_915e3_0 {g : mm_c} (C : mm_ok g cJx4a65c_get_915e3 "java/util/ArrayList" (some (.object "java/lang/Object")) "get" 2 2 43 0 0) {M : mm_M} {v0 : Option Nat} {v1 : Int32} {res : Option Nat} (hf : f_Jx4a65c_get_915e3_0 M v0 v1 = some res) (ko : (fun z => mm_q g 0 0 (some (mm_r z)) M) res) : mm_X g 0 0 M 0 [(0, mm_r v0), (1, mm_i v1)] [] := by
  unfold f_Jx4a65c_get_915e3_0 at hf
  refine xr_iload_n 1 1 C dJx4a65c_get_915e3_0 rfl rfl rfl ?_
  refine xr_aload_n 2 0 C dJx4a65c_get_915e3_1 rfl rfl rfl ?_
  obtain ⟨x2, h2, hf⟩ := mm_bd_e hf
  refine xr_getI 5 C cf_Jx4a65c_48 rfl h2 dJx4a65c_get_915e3_2 rfl ?_
  obtain ⟨x5, h5, hf⟩ := mm_bd_e hf
  refine xr_callS 8 C [mm_i v1, mm_i x2] cm_Jx4a65c_118 (fun l G cy => c_J15_checkIndex_7cf53 l G cy h5) rfl rfl ⟨⟨Nat.le_of_ble_eq_true rfl, Nat.le_of_ble_eq_true rfl⟩, (Nat.le_of_ble_eq_true rfl), (Nat.le_of_ble_eq_true rfl)⟩ (Nat.le_of_ble_eq_true rfl) dJx4a65c_get_915e3_5 rfl ?_
  refine xr_pop 9 C dJx4a65c_get_915e3_8 rfl rfl ?_
  refine xr_aload_n 10 0 C dJx4a65c_get_915e3_9 rfl rfl rfl ?_
  refine xr_iload_n 11 1 C dJx4a65c_get_915e3_10 rfl rfl rfl ?_
  obtain ⟨u11, g11, hf⟩ := mm_bd_e hf
  obtain ⟨x11, h11, hf⟩ := mm_bd_e hf
  refine xr_callV 14 C [mm_i v1] cm_Jx4a65c_123 (fun l G cy => c_Jx4a65c_elementData_915e3 l G cy h11) g11 rfl rfl ⟨⟨Nat.le_of_ble_eq_true rfl, Nat.le_of_ble_eq_true rfl⟩, (Nat.le_of_ble_eq_true rfl), (Nat.le_of_ble_eq_true rfl)⟩ (Nat.le_of_ble_eq_true rfl) dJx4a65c_get_915e3_11 rfl ?_
  obtain rfl := Option.some.inj hf
  exact xr_aret (by first | exact Or.inl ⟨_, rfl⟩ | exact Or.inr ⟨_, rfl⟩) C ko ⟨(Nat.le_of_ble_eq_true rfl), (Nat.le_of_ble_eq_true rfl)⟩ dJx4a65c_get_915e3_14
noncomputable def f_Jx4a65c_get_915e3 (M : mm_M) (v0 : Option Nat) (v1 : Int32) : Option (Option Nat) := f_Jx4a65c_get_915e3_0 M v0 v1
theorem c_Jx4a65c_get_915e3 (l : Launch) (G : va_G) (cy : Nat → ClassId) {M : mm_M} {v0 : Option Nat} {v1 : Int32} {r : Option Nat} (hf : f_Jx4a65c_get_915e3 M v0 v1 = some r) : mm_Met l yJx4a65c_get_915e3 cJx4a65c_get_915e3 2 (some (.object "java/lang/Object")) 2 43 0 0 G cy [mm_r v0, mm_i v1] M (some (mm_r r)) M :=
  mm_enter (by decide) (Nat.le_of_ble_eq_true rfl) (fun p e R s m args below meth c Q C hq => xr_sub [0, 1] (lv2 := [(0, mm_r v0), (1, mm_i v1)]) rfl (w_Jx4a65c_get_915e3_0 C hf hq))
noncomputable def f_X2_cardAt_30 (M : mm_M) (s0 : Option Nat) : Option (Option Nat) :=
  some s0
set_option maxRecDepth 20000 in
theorem w_X2_cardAt_30 {g : mm_c} (C : mm_ok g cX2_cardAt "LessonCards$Deck" (some (.object "LessonCards$Card")) "cardAt" 2 3 64 0 0) {M : mm_M} {s0 : Option Nat} {res : Option Nat} (hf : f_X2_cardAt_30 M s0 = some res) (ko : (fun z => mm_q g 0 0 (some (mm_r z)) M) res) : mm_X g 0 0 M 30 [] [mm_r s0] := by
  unfold f_X2_cardAt_30 at hf
  obtain rfl := Option.some.inj hf
  exact xr_aret (by first | exact Or.inl ⟨_, rfl⟩ | exact Or.inr ⟨_, rfl⟩) C ko ⟨(Nat.le_of_ble_eq_true rfl), (Nat.le_of_ble_eq_true rfl)⟩ dX2_cardAt_30
noncomputable def f_X2_cardAt_15 (M : mm_M) : Option (Option Nat) :=
  f_X2_cardAt_30 M none
set_option maxRecDepth 20000 in
theorem w_X2_cardAt_15 {g : mm_c} (C : mm_ok g cX2_cardAt "LessonCards$Deck" (some (.object "LessonCards$Card")) "cardAt" 2 3 64 0 0) {M : mm_M} {res : Option Nat} (hf : f_X2_cardAt_15 M = some res) (ko : (fun z => mm_q g 0 0 (some (mm_r z)) M) res) : mm_X g 0 0 M 15 [] [] := by
  unfold f_X2_cardAt_15 at hf
  refine xr_null 16 C dX2_cardAt_15 rfl ?_
  refine xr_goto 30 C dX2_cardAt_16 (by decide) ?_
  exact w_X2_cardAt_30 C hf ko
noncomputable def f_X2_cardAt_19 (M : mm_M) (v0 : Option Nat) (v1 : Int32) : Option (Option Nat) :=
  (mm_fR M v0 3 0).bind fun x20 =>
  (mm_rc M x20 0).bind fun u24 =>
  (f_Jx4a65c_get_915e3 M x20 v1).bind fun x24 =>
  (mm_cc M x24 1).bind fun u27 =>
  f_X2_cardAt_30 M x24
set_option maxRecDepth 20000 in
theorem w_X2_cardAt_19 {g : mm_c} (C : mm_ok g cX2_cardAt "LessonCards$Deck" (some (.object "LessonCards$Card")) "cardAt" 2 3 64 0 0) {M : mm_M} {v0 : Option Nat} {v1 : Int32} {res : Option Nat} (hf : f_X2_cardAt_19 M v0 v1 = some res) (ko : (fun z => mm_q g 0 0 (some (mm_r z)) M) res) : mm_X g 0 0 M 19 [(0, mm_r v0), (1, mm_i v1)] [] := by
  unfold f_X2_cardAt_19 at hf
  refine xr_aload_n 20 0 C dX2_cardAt_19 rfl rfl rfl ?_
  obtain ⟨x20, h20, hf⟩ := mm_bd_e hf
  refine xr_getR 23 C cf_X2_12 rfl h20 dX2_cardAt_20 rfl ?_
  refine xr_iload_n 24 1 C dX2_cardAt_23 rfl rfl rfl ?_
  obtain ⟨u24, g24, hf⟩ := mm_bd_e hf
  obtain ⟨x24, h24, hf⟩ := mm_bd_e hf
  refine xr_callV 27 C [mm_i v1] cm_X2_37 (fun l G cy => c_Jx4a65c_get_915e3 l G cy h24) g24 rfl rfl ⟨⟨Nat.le_of_ble_eq_true rfl, Nat.le_of_ble_eq_true rfl⟩, (Nat.le_of_ble_eq_true rfl), (Nat.le_of_ble_eq_true rfl)⟩ (Nat.le_of_ble_eq_true rfl) dX2_cardAt_24 rfl ?_
  obtain ⟨u27, h27, hf⟩ := mm_bd_e hf
  refine xr_cast 30 C (ci := 1) rfl (by decide) wd_364 h27 dX2_cardAt_27 rfl ?_
  refine xr_sub [] (lv2 := []) rfl ?_
  exact w_X2_cardAt_30 C hf ko
noncomputable def f_X2_cardAt_4 (M : mm_M) (v0 : Option Nat) (v1 : Int32) : Option (Option Nat) :=
  (mm_fR M v0 3 0).bind fun x6 =>
  (mm_rc M x6 0).bind fun u9 =>
  (f_Jx4a65c_size_8abf5 M x6).bind fun x9 =>
  if v1 < x9 then f_X2_cardAt_19 M v0 v1 else f_X2_cardAt_15 M
set_option maxRecDepth 20000 in
theorem w_X2_cardAt_4 {g : mm_c} (C : mm_ok g cX2_cardAt "LessonCards$Deck" (some (.object "LessonCards$Card")) "cardAt" 2 3 64 0 0) {M : mm_M} {v0 : Option Nat} {v1 : Int32} {res : Option Nat} (hf : f_X2_cardAt_4 M v0 v1 = some res) (ko : (fun z => mm_q g 0 0 (some (mm_r z)) M) res) : mm_X g 0 0 M 4 [(0, mm_r v0), (1, mm_i v1)] [] := by
  unfold f_X2_cardAt_4 at hf
  refine xr_iload_n 5 1 C dX2_cardAt_4 rfl rfl rfl ?_
  refine xr_aload_n 6 0 C dX2_cardAt_5 rfl rfl rfl ?_
  obtain ⟨x6, h6, hf⟩ := mm_bd_e hf
  refine xr_getR 9 C cf_X2_12 rfl h6 dX2_cardAt_6 rfl ?_
  obtain ⟨u9, g9, hf⟩ := mm_bd_e hf
  obtain ⟨x9, h9, hf⟩ := mm_bd_e hf
  refine xr_callV 12 C [] cm_X2_26 (fun l G cy => c_Jx4a65c_size_8abf5 l G cy h9) g9 rfl rfl ⟨⟨Nat.le_of_ble_eq_true rfl, Nat.le_of_ble_eq_true rfl⟩, (Nat.le_of_ble_eq_true rfl), (Nat.le_of_ble_eq_true rfl)⟩ (Nat.le_of_ble_eq_true rfl) dX2_cardAt_9 rfl ?_
  refine xr_icmp_lt 19 15 C dX2_cardAt_12 (by decide) rfl (fun hc => ?_) (fun hc => ?_)
  · replace hf := (if_pos hc).symm.trans hf
    exact w_X2_cardAt_19 C hf ko
  · replace hf := (if_neg hc).symm.trans hf
    refine xr_sub [] (lv2 := []) rfl ?_
    exact w_X2_cardAt_15 C hf ko
noncomputable def f_X2_cardAt_0 (M : mm_M) (v0 : Option Nat) (v1 : Int32) : Option (Option Nat) :=
  if v1 < 0 then f_X2_cardAt_15 M else f_X2_cardAt_4 M v0 v1
set_option maxRecDepth 20000 in
theorem w_X2_cardAt_0 {g : mm_c} (C : mm_ok g cX2_cardAt "LessonCards$Deck" (some (.object "LessonCards$Card")) "cardAt" 2 3 64 0 0) {M : mm_M} {v0 : Option Nat} {v1 : Int32} {res : Option Nat} (hf : f_X2_cardAt_0 M v0 v1 = some res) (ko : (fun z => mm_q g 0 0 (some (mm_r z)) M) res) : mm_X g 0 0 M 0 [(0, mm_r v0), (1, mm_i v1)] [] := by
  unfold f_X2_cardAt_0 at hf
  refine xr_iload_n 1 1 C dX2_cardAt_0 rfl rfl rfl ?_
  refine xr_if_lt 15 4 C dX2_cardAt_1 (by decide) rfl (fun hc => ?_) (fun hc => ?_)
  · replace hf := (if_pos hc).symm.trans hf
    refine xr_sub [] (lv2 := []) rfl ?_
    exact w_X2_cardAt_15 C hf ko
  · replace hf := (if_neg hc).symm.trans hf
    exact w_X2_cardAt_4 C hf ko
noncomputable def f_X2_cardAt (M : mm_M) (v0 : Option Nat) (v1 : Int32) : Option (Option Nat) := f_X2_cardAt_0 M v0 v1
theorem c_X2_cardAt (l : Launch) (G : va_G) (cy : Nat → ClassId) {M : mm_M} {v0 : Option Nat} {v1 : Int32} {r : Option Nat} (hf : f_X2_cardAt M v0 v1 = some r) : mm_Met l yX2_cardAt cX2_cardAt 2 (some (.object "LessonCards$Card")) 3 64 0 0 G cy [mm_r v0, mm_i v1] M (some (mm_r r)) M :=
  mm_enter (by decide) (Nat.le_of_ble_eq_true rfl) (fun p e R s m args below meth c Q C hq => xr_sub [0, 1] (lv2 := [(0, mm_r v0), (1, mm_i v1)]) rfl (w_X2_cardAt_0 C hf hq))
noncomputable def f_X2_reach_31 (M : mm_M) (v2 : Int32) : Option (Int32 × mm_M) :=
  some (v2, M)
set_option maxRecDepth 20000 in
theorem w_X2_reach_31 {g : mm_c} (C : mm_ok g cX2_reach "LessonCards$Deck" (some .int) "reach" 3 0 0 0 0) {M : mm_M} {v2 : Int32} {res : Int32 × mm_M} (hf : f_X2_reach_31 M v2 = some res) (ko : (fun z => mm_q g 0 0 (some (mm_i z.1)) z.2) res) : mm_X g 0 0 M 31 [(2, mm_i v2)] [] := by
  unfold f_X2_reach_31 at hf
  refine xr_iload_n 32 0 C dX2_reach_31 rfl rfl rfl ?_
  obtain rfl := Option.some.inj hf
  exact xr_iret C ko ⟨(Nat.le_of_ble_eq_true rfl), (Nat.le_of_ble_eq_true rfl)⟩ dX2_reach_32
noncomputable def f_X2_reach_33 (M : mm_M) (v0 : Option Nat) (v1 : Int32) (v2 : Int32) : Option (Int32 × mm_M) :=
  (mm_fR M v0 3 2).bind fun x34 =>
  (mm_tZ M x34 v1 1).bind fun M39 =>
  (mm_fR M39 v0 3 1).bind fun x41 =>
  (mm_tI M39 x41 v2 v1).bind fun M46 =>
  some ((v2 + 1), M46)
set_option maxRecDepth 20000 in
theorem w_X2_reach_33 {g : mm_c} (C : mm_ok g cX2_reach "LessonCards$Deck" (some .int) "reach" 3 0 0 0 0) {M : mm_M} {v0 : Option Nat} {v1 : Int32} {v2 : Int32} {res : Int32 × mm_M} (hf : f_X2_reach_33 M v0 v1 v2 = some res) (ko : (fun z => mm_q g 0 0 (some (mm_i z.1)) z.2) res) : mm_X g 0 0 M 33 [(0, mm_r v0), (1, mm_i v1), (2, mm_i v2)] [] := by
  unfold f_X2_reach_33 at hf
  refine xr_aload_n 34 0 C dX2_reach_33 rfl rfl rfl ?_
  obtain ⟨x34, h34, hf⟩ := mm_bd_e hf
  refine xr_getR 37 C cf_X2_22 rfl h34 dX2_reach_34 rfl ?_
  refine xr_iload_n 38 1 C dX2_reach_37 rfl rfl rfl ?_
  refine xr_iconst 39 C (v := 1) dX2_reach_38 (by decide) rfl ?_
  obtain ⟨M39, h39, hf⟩ := mm_bd_e hf
  refine xr_astZ 40 C h39 dX2_reach_39 rfl ?_
  refine xr_aload_n 41 0 C dX2_reach_40 rfl rfl rfl ?_
  obtain ⟨x41, h41, hf⟩ := mm_bd_e hf
  refine xr_getR 44 C cf_X2_18 rfl h41 dX2_reach_41 rfl ?_
  refine xr_iload_n 45 2 C dX2_reach_44 rfl rfl rfl ?_
  refine xr_iload_n 46 1 C dX2_reach_45 rfl rfl rfl ?_
  obtain ⟨M46, h46, hf⟩ := mm_bd_e hf
  refine xr_astI 47 C h46 dX2_reach_46 rfl ?_
  refine xr_iload_n 48 2 C dX2_reach_47 rfl rfl rfl ?_
  refine xr_iconst 49 C (v := 1) dX2_reach_48 (by decide) rfl ?_
  refine xr_iadd 50 C dX2_reach_49 rfl ?_
  obtain rfl := Option.some.inj hf
  exact xr_iret C ko ⟨(Nat.le_of_ble_eq_true rfl), (Nat.le_of_ble_eq_true rfl)⟩ dX2_reach_50
noncomputable def f_X2_reach_22 (M : mm_M) (v0 : Option Nat) (v1 : Int32) (v2 : Int32) : Option (Int32 × mm_M) :=
  (mm_fR M v0 3 1).bind fun x24 =>
  (mm_ln M x24).bind fun x27 =>
  if v2 < x27 then f_X2_reach_33 M v0 v1 v2 else f_X2_reach_31 M v2
set_option maxRecDepth 20000 in
theorem w_X2_reach_22 {g : mm_c} (C : mm_ok g cX2_reach "LessonCards$Deck" (some .int) "reach" 3 0 0 0 0) {M : mm_M} {v0 : Option Nat} {v1 : Int32} {v2 : Int32} {res : Int32 × mm_M} (hf : f_X2_reach_22 M v0 v1 v2 = some res) (ko : (fun z => mm_q g 0 0 (some (mm_i z.1)) z.2) res) : mm_X g 0 0 M 22 [(0, mm_r v0), (1, mm_i v1), (2, mm_i v2)] [] := by
  unfold f_X2_reach_22 at hf
  refine xr_iload_n 23 2 C dX2_reach_22 rfl rfl rfl ?_
  refine xr_aload_n 24 0 C dX2_reach_23 rfl rfl rfl ?_
  obtain ⟨x24, h24, hf⟩ := mm_bd_e hf
  refine xr_getR 27 C cf_X2_18 rfl h24 dX2_reach_24 rfl ?_
  obtain ⟨x27, h27, hf⟩ := mm_bd_e hf
  refine xr_alen 28 C h27 dX2_reach_27 rfl ?_
  refine xr_icmp_lt 33 31 C dX2_reach_28 (by decide) rfl (fun hc => ?_) (fun hc => ?_)
  · replace hf := (if_pos hc).symm.trans hf
    exact w_X2_reach_33 C hf ko
  · replace hf := (if_neg hc).symm.trans hf
    refine xr_sub [2] (lv2 := [(2, mm_i v2)]) rfl ?_
    exact w_X2_reach_31 C hf ko
noncomputable def f_X2_reach_13 (M : mm_M) (v0 : Option Nat) (v1 : Int32) (v2 : Int32) : Option (Int32 × mm_M) :=
  (mm_fR M v0 3 2).bind fun x14 =>
  (mm_aI M x14 14 v1).bind fun x18 =>
  if x18 = 0 then f_X2_reach_22 M v0 v1 v2 else f_X2_reach_31 M v2
set_option maxRecDepth 20000 in
theorem w_X2_reach_13 {g : mm_c} (C : mm_ok g cX2_reach "LessonCards$Deck" (some .int) "reach" 3 0 0 0 0) {M : mm_M} {v0 : Option Nat} {v1 : Int32} {v2 : Int32} {res : Int32 × mm_M} (hf : f_X2_reach_13 M v0 v1 v2 = some res) (ko : (fun z => mm_q g 0 0 (some (mm_i z.1)) z.2) res) : mm_X g 0 0 M 13 [(0, mm_r v0), (1, mm_i v1), (2, mm_i v2)] [] := by
  unfold f_X2_reach_13 at hf
  refine xr_aload_n 14 0 C dX2_reach_13 rfl rfl rfl ?_
  obtain ⟨x14, h14, hf⟩ := mm_bd_e hf
  refine xr_getR 17 C cf_X2_22 rfl h14 dX2_reach_14 rfl ?_
  refine xr_iload_n 18 1 C dX2_reach_17 rfl rfl rfl ?_
  obtain ⟨x18, h18, hf⟩ := mm_bd_e hf
  refine xr_aldZ 19 C h18 dX2_reach_18 rfl ?_
  refine xr_if_ne 31 22 C dX2_reach_19 (by decide) rfl (fun hc => ?_) (fun hc => ?_)
  · replace hf := (if_neg hc).symm.trans hf
    refine xr_sub [2] (lv2 := [(2, mm_i v2)]) rfl ?_
    exact w_X2_reach_31 C hf ko
  · replace hf := (if_pos hc).symm.trans hf
    exact w_X2_reach_22 C hf ko
noncomputable def f_X2_reach_4 (M : mm_M) (v0 : Option Nat) (v1 : Int32) (v2 : Int32) : Option (Int32 × mm_M) :=
  (mm_fR M v0 3 2).bind fun x6 =>
  (mm_ln M x6).bind fun x9 =>
  if x9 ≤ v1 then f_X2_reach_31 M v2 else f_X2_reach_13 M v0 v1 v2
set_option maxRecDepth 20000 in
theorem w_X2_reach_4 {g : mm_c} (C : mm_ok g cX2_reach "LessonCards$Deck" (some .int) "reach" 3 0 0 0 0) {M : mm_M} {v0 : Option Nat} {v1 : Int32} {v2 : Int32} {res : Int32 × mm_M} (hf : f_X2_reach_4 M v0 v1 v2 = some res) (ko : (fun z => mm_q g 0 0 (some (mm_i z.1)) z.2) res) : mm_X g 0 0 M 4 [(0, mm_r v0), (1, mm_i v1), (2, mm_i v2)] [] := by
  unfold f_X2_reach_4 at hf
  refine xr_iload_n 5 1 C dX2_reach_4 rfl rfl rfl ?_
  refine xr_aload_n 6 0 C dX2_reach_5 rfl rfl rfl ?_
  obtain ⟨x6, h6, hf⟩ := mm_bd_e hf
  refine xr_getR 9 C cf_X2_22 rfl h6 dX2_reach_6 rfl ?_
  obtain ⟨x9, h9, hf⟩ := mm_bd_e hf
  refine xr_alen 10 C h9 dX2_reach_9 rfl ?_
  refine xr_icmp_ge 31 13 C dX2_reach_10 (by decide) rfl (fun hc => ?_) (fun hc => ?_)
  · replace hf := (if_pos hc).symm.trans hf
    refine xr_sub [2] (lv2 := [(2, mm_i v2)]) rfl ?_
    exact w_X2_reach_31 C hf ko
  · replace hf := (if_neg hc).symm.trans hf
    exact w_X2_reach_13 C hf ko
noncomputable def f_X2_reach_0 (M : mm_M) (v0 : Option Nat) (v1 : Int32) (v2 : Int32) : Option (Int32 × mm_M) :=
  if v1 < 0 then f_X2_reach_31 M v2 else f_X2_reach_4 M v0 v1 v2
set_option maxRecDepth 20000 in
theorem w_X2_reach_0 {g : mm_c} (C : mm_ok g cX2_reach "LessonCards$Deck" (some .int) "reach" 3 0 0 0 0) {M : mm_M} {v0 : Option Nat} {v1 : Int32} {v2 : Int32} {res : Int32 × mm_M} (hf : f_X2_reach_0 M v0 v1 v2 = some res) (ko : (fun z => mm_q g 0 0 (some (mm_i z.1)) z.2) res) : mm_X g 0 0 M 0 [(0, mm_r v0), (1, mm_i v1), (2, mm_i v2)] [] := by
  unfold f_X2_reach_0 at hf
  refine xr_iload_n 1 1 C dX2_reach_0 rfl rfl rfl ?_
  refine xr_if_lt 31 4 C dX2_reach_1 (by decide) rfl (fun hc => ?_) (fun hc => ?_)
  · replace hf := (if_pos hc).symm.trans hf
    refine xr_sub [2] (lv2 := [(2, mm_i v2)]) rfl ?_
    exact w_X2_reach_31 C hf ko
  · replace hf := (if_neg hc).symm.trans hf
    exact w_X2_reach_4 C hf ko
noncomputable def f_X2_reach (M : mm_M) (v0 : Option Nat) (v1 : Int32) (v2 : Int32) : Option (Int32 × mm_M) := f_X2_reach_0 M v0 v1 v2
theorem c_X2_reach (l : Launch) (G : va_G) (cy : Nat → ClassId) {M : mm_M} {v0 : Option Nat} {v1 : Int32} {v2 : Int32} {r : Int32} {M1 : mm_M} (hf : f_X2_reach M v0 v1 v2 = some (r, M1)) : mm_Met l yX2_reach cX2_reach 3 (some .int) 0 0 0 0 G cy [mm_r v0, mm_i v1, mm_i v2] M (some (mm_i r)) M1 :=
  mm_enter (by decide) (Nat.le_of_ble_eq_true rfl) (fun p e R s m args below meth c Q C hq => xr_sub [0, 1, 2] (lv2 := [(0, mm_r v0), (1, mm_i v1), (2, mm_i v2)]) rfl (w_X2_reach_0 C hf hq))
def h_X2_leadsTo_66 (g : mm_c) (v0 : Option Nat) (v2 : Int32) (v4 : Int32) (v5 : Option Nat) : (mm_M × Int32 × Int32) → Prop := fun x => mm_X g 0 0 x.1 66 [(0, mm_r v0), (2, mm_i v2), (3, mm_i x.2.1), (4, mm_i v4), (5, mm_r v5), (6, mm_i x.2.2)] []
def h_X2_leadsTo_34 (g : mm_c) (v0 : Option Nat) (v2 : Int32) : (mm_M × Int32 × Int32) → Prop := fun x => mm_X g 0 0 x.1 34 [(0, mm_r v0), (2, mm_i v2), (3, mm_i x.2.1), (4, mm_i x.2.2)] []
def h_X2_leadsTo_2 (g : mm_c) (v0 : Option Nat) (v1 : Int32) (v2 : Int32) : (mm_M × Int32) → Prop := fun x => mm_X g 0 0 x.1 2 [(0, mm_r v0), (1, mm_i v1), (2, mm_i v2), (3, mm_i x.2)] []
noncomputable def f_X2_leadsTo_11 (M : mm_M) (v0 : Option Nat) (v1 : Int32) (v2 : Int32) (v3 : Int32) : Option ((mm_M × Int32) ⊕ (Int32 × mm_M)) :=
  (mm_fR M v0 3 2).bind fun x12 =>
  (mm_tZ M x12 v3 0).bind fun M17 =>
  some (.inl (M17, (v3 + 1)))
set_option maxRecDepth 20000 in
theorem w_X2_leadsTo_11 {g : mm_c} (C : mm_ok g cX2_leadsTo "LessonCards$Deck" (some .boolean) "leadsTo" 7 4 85 0 0) {M : mm_M} {v0 : Option Nat} {v1 : Int32} {v2 : Int32} {v3 : Int32} {res : (mm_M × Int32) ⊕ (Int32 × mm_M)} (hf : f_X2_leadsTo_11 M v0 v1 v2 v3 = some res) (ko : (mm_o (h_X2_leadsTo_2 g v0 v1 v2) (fun z => mm_q g 0 0 (some (mm_i z.1)) z.2)) res) : mm_X g 0 0 M 11 [(0, mm_r v0), (1, mm_i v1), (2, mm_i v2), (3, mm_i v3)] [] := by
  unfold f_X2_leadsTo_11 at hf
  refine xr_aload_n 12 0 C dX2_leadsTo_11 rfl rfl rfl ?_
  obtain ⟨x12, h12, hf⟩ := mm_bd_e hf
  refine xr_getR 15 C cf_X2_22 rfl h12 dX2_leadsTo_12 rfl ?_
  refine xr_iload_n 16 3 C dX2_leadsTo_15 rfl rfl rfl ?_
  refine xr_iconst 17 C (v := 0) dX2_leadsTo_16 (by decide) rfl ?_
  obtain ⟨M17, h17, hf⟩ := mm_bd_e hf
  refine xr_astZ 18 C h17 dX2_leadsTo_17 rfl ?_
  refine xr_iinc 21 3 C dX2_leadsTo_18 rfl (by decide) (v := 1) (by decide) rfl [(3, mm_i (v3 + 1)), (0, mm_r v0), (1, mm_i v1), (2, mm_i v2)] rfl ?_
  refine xr_goto 2 C dX2_leadsTo_21 (by decide) ?_
  refine xr_sub [1, 2, 3, 0] (lv2 := [(0, mm_r v0), (1, mm_i v1), (2, mm_i v2), (3, mm_i (v3 + 1))]) rfl ?_
  obtain rfl := Option.some.inj hf
  exact ko
noncomputable def f_X2_leadsTo_92 (M : mm_M) (v0 : Option Nat) (v2 : Int32) (v3 : Int32) (v4 : Int32) (v5 : Option Nat) (v6 : Int32) : Option ((mm_M × Int32 × Int32) ⊕ ((mm_M × Int32 × Int32) ⊕ (Int32 × mm_M))) :=
  (mm_fR M v5 1 0).bind fun x95 =>
  (mm_aI M x95 12 v6).bind fun x100 =>
  (mm_rc M v0 3).bind fun u102 =>
  mm_b2 (f_X2_reach M v0 x100 v3) fun x102 M102 =>
  some (.inl (M102, x102, (v6 + 1)))
set_option maxRecDepth 20000 in
theorem w_X2_leadsTo_92 {g : mm_c} (C : mm_ok g cX2_leadsTo "LessonCards$Deck" (some .boolean) "leadsTo" 7 4 85 0 0) {M : mm_M} {v0 : Option Nat} {v2 : Int32} {v3 : Int32} {v4 : Int32} {v5 : Option Nat} {v6 : Int32} {res : (mm_M × Int32 × Int32) ⊕ ((mm_M × Int32 × Int32) ⊕ (Int32 × mm_M))} (hf : f_X2_leadsTo_92 M v0 v2 v3 v4 v5 v6 = some res) (ko : (mm_o (h_X2_leadsTo_66 g v0 v2 v4 v5) (mm_o (h_X2_leadsTo_34 g v0 v2) (fun z => mm_q g 0 0 (some (mm_i z.1)) z.2))) res) : mm_X g 0 0 M 92 [(0, mm_r v0), (2, mm_i v2), (3, mm_i v3), (4, mm_i v4), (5, mm_r v5), (6, mm_i v6)] [] := by
  unfold f_X2_leadsTo_92 at hf
  refine xr_aload_n 93 0 C dX2_leadsTo_92 rfl rfl rfl ?_
  refine xr_aload 95 4 C dX2_leadsTo_93 rfl rfl ?_
  obtain ⟨x95, h95, hf⟩ := mm_bd_e hf
  refine xr_getR 98 C cf_X2_53 rfl h95 dX2_leadsTo_95 rfl ?_
  refine xr_iload 100 5 C dX2_leadsTo_98 rfl rfl ?_
  obtain ⟨x100, h100, hf⟩ := mm_bd_e hf
  refine xr_aldI 101 C h100 dX2_leadsTo_100 rfl ?_
  refine xr_iload_n 102 2 C dX2_leadsTo_101 rfl rfl rfl ?_
  obtain ⟨u102, g102, hf⟩ := mm_bd_e hf
  obtain ⟨x102, M102, h102, hf⟩ := mm_b2_e hf
  refine xr_callV 105 C [mm_i x100, mm_i v3] cm_X2_41 (fun l G cy => c_X2_reach l G cy h102) g102 rfl rfl ⟨⟨Nat.le_of_ble_eq_true rfl, Nat.le_of_ble_eq_true rfl⟩, (Nat.le_of_ble_eq_true rfl), (Nat.le_of_ble_eq_true rfl)⟩ (Nat.le_of_ble_eq_true rfl) dX2_leadsTo_102 rfl ?_
  refine xr_istore_n 106 C dX2_leadsTo_105 rfl (by decide) rfl [(3, mm_i x102), (0, mm_r v0), (2, mm_i v2), (4, mm_i v4), (5, mm_r v5), (6, mm_i v6)] rfl ?_
  refine xr_iinc 109 5 C dX2_leadsTo_106 rfl (by decide) (v := 1) (by decide) rfl [(6, mm_i (v6 + 1)), (3, mm_i x102), (0, mm_r v0), (2, mm_i v2), (4, mm_i v4), (5, mm_r v5)] rfl ?_
  refine xr_goto 66 C dX2_leadsTo_109 (by decide) ?_
  refine xr_sub [2, 3, 1, 4, 5, 0] (lv2 := [(0, mm_r v0), (2, mm_i v2), (3, mm_i x102), (4, mm_i v4), (5, mm_r v5), (6, mm_i (v6 + 1))]) rfl ?_
  obtain rfl := Option.some.inj hf
  exact ko
noncomputable def f_X2_leadsTo_112 (M : mm_M) (v0 : Option Nat) (v2 : Int32) (v3 : Int32) (v4 : Int32) : Option ((mm_M × Int32 × Int32) ⊕ (Int32 × mm_M)) :=
  some (.inl (M, v3, (v4 + 1)))
set_option maxRecDepth 20000 in
theorem w_X2_leadsTo_112 {g : mm_c} (C : mm_ok g cX2_leadsTo "LessonCards$Deck" (some .boolean) "leadsTo" 7 4 85 0 0) {M : mm_M} {v0 : Option Nat} {v2 : Int32} {v3 : Int32} {v4 : Int32} {res : (mm_M × Int32 × Int32) ⊕ (Int32 × mm_M)} (hf : f_X2_leadsTo_112 M v0 v2 v3 v4 = some res) (ko : (mm_o (h_X2_leadsTo_34 g v0 v2) (fun z => mm_q g 0 0 (some (mm_i z.1)) z.2)) res) : mm_X g 0 0 M 112 [(0, mm_r v0), (2, mm_i v2), (3, mm_i v3), (4, mm_i v4)] [] := by
  unfold f_X2_leadsTo_112 at hf
  refine xr_iinc 115 3 C dX2_leadsTo_112 rfl (by decide) (v := 1) (by decide) rfl [(4, mm_i (v4 + 1)), (0, mm_r v0), (2, mm_i v2), (3, mm_i v3)] rfl ?_
  refine xr_goto 34 C dX2_leadsTo_115 (by decide) ?_
  refine xr_sub [1, 2, 3, 0] (lv2 := [(0, mm_r v0), (2, mm_i v2), (3, mm_i v3), (4, mm_i (v4 + 1))]) rfl ?_
  obtain rfl := Option.some.inj hf
  exact ko
noncomputable def f_X2_leadsTo_81 (M : mm_M) (v0 : Option Nat) (v2 : Int32) (v3 : Int32) (v4 : Int32) (v5 : Option Nat) (v6 : Int32) : Option ((mm_M × Int32 × Int32) ⊕ ((mm_M × Int32 × Int32) ⊕ (Int32 × mm_M))) :=
  (mm_fR M v5 1 0).bind fun x85 =>
  (mm_ln M x85).bind fun x88 =>
  if x88 ≤ v6 then mm_mp (f_X2_leadsTo_112 M v0 v2 v3 v4) else f_X2_leadsTo_92 M v0 v2 v3 v4 v5 v6
set_option maxRecDepth 20000 in
theorem w_X2_leadsTo_81 {g : mm_c} (C : mm_ok g cX2_leadsTo "LessonCards$Deck" (some .boolean) "leadsTo" 7 4 85 0 0) {M : mm_M} {v0 : Option Nat} {v2 : Int32} {v3 : Int32} {v4 : Int32} {v5 : Option Nat} {v6 : Int32} {res : (mm_M × Int32 × Int32) ⊕ ((mm_M × Int32 × Int32) ⊕ (Int32 × mm_M))} (hf : f_X2_leadsTo_81 M v0 v2 v3 v4 v5 v6 = some res) (ko : (mm_o (h_X2_leadsTo_66 g v0 v2 v4 v5) (mm_o (h_X2_leadsTo_34 g v0 v2) (fun z => mm_q g 0 0 (some (mm_i z.1)) z.2))) res) : mm_X g 0 0 M 81 [(0, mm_r v0), (2, mm_i v2), (3, mm_i v3), (4, mm_i v4), (5, mm_r v5), (6, mm_i v6)] [] := by
  unfold f_X2_leadsTo_81 at hf
  refine xr_iload 83 5 C dX2_leadsTo_81 rfl rfl ?_
  refine xr_aload 85 4 C dX2_leadsTo_83 rfl rfl ?_
  obtain ⟨x85, h85, hf⟩ := mm_bd_e hf
  refine xr_getR 88 C cf_X2_53 rfl h85 dX2_leadsTo_85 rfl ?_
  obtain ⟨x88, h88, hf⟩ := mm_bd_e hf
  refine xr_alen 89 C h88 dX2_leadsTo_88 rfl ?_
  refine xr_icmp_ge 112 92 C dX2_leadsTo_89 (by decide) rfl (fun hc => ?_) (fun hc => ?_)
  · replace hf := (if_pos hc).symm.trans hf
    refine xr_sub [0, 1, 2, 3] (lv2 := [(0, mm_r v0), (2, mm_i v2), (3, mm_i v3), (4, mm_i v4)]) rfl ?_
    obtain ⟨z, hf2, rfl⟩ := mm_mp_e hf
    clear hf
    have hf := hf2
    clear hf2
    exact w_X2_leadsTo_112 C hf ko
  · replace hf := (if_neg hc).symm.trans hf
    exact w_X2_leadsTo_92 C hf ko
noncomputable def f_X2_leadsTo_71 (M : mm_M) (v0 : Option Nat) (v2 : Int32) (v3 : Int32) (v4 : Int32) (v5 : Option Nat) (v6 : Int32) : Option ((mm_M × Int32 × Int32) ⊕ ((mm_M × Int32 × Int32) ⊕ (Int32 × mm_M))) :=
  (mm_fI M v5 1 1).bind fun x75 =>
  if x75 ≤ v6 then mm_mp (f_X2_leadsTo_112 M v0 v2 v3 v4) else f_X2_leadsTo_81 M v0 v2 v3 v4 v5 v6
set_option maxRecDepth 20000 in
theorem w_X2_leadsTo_71 {g : mm_c} (C : mm_ok g cX2_leadsTo "LessonCards$Deck" (some .boolean) "leadsTo" 7 4 85 0 0) {M : mm_M} {v0 : Option Nat} {v2 : Int32} {v3 : Int32} {v4 : Int32} {v5 : Option Nat} {v6 : Int32} {res : (mm_M × Int32 × Int32) ⊕ ((mm_M × Int32 × Int32) ⊕ (Int32 × mm_M))} (hf : f_X2_leadsTo_71 M v0 v2 v3 v4 v5 v6 = some res) (ko : (mm_o (h_X2_leadsTo_66 g v0 v2 v4 v5) (mm_o (h_X2_leadsTo_34 g v0 v2) (fun z => mm_q g 0 0 (some (mm_i z.1)) z.2))) res) : mm_X g 0 0 M 71 [(0, mm_r v0), (2, mm_i v2), (3, mm_i v3), (4, mm_i v4), (5, mm_r v5), (6, mm_i v6)] [] := by
  unfold f_X2_leadsTo_71 at hf
  refine xr_iload 73 5 C dX2_leadsTo_71 rfl rfl ?_
  refine xr_aload 75 4 C dX2_leadsTo_73 rfl rfl ?_
  obtain ⟨x75, h75, hf⟩ := mm_bd_e hf
  refine xr_getI 78 C cf_X2_49 rfl h75 dX2_leadsTo_75 rfl ?_
  refine xr_icmp_ge 112 81 C dX2_leadsTo_78 (by decide) rfl (fun hc => ?_) (fun hc => ?_)
  · replace hf := (if_pos hc).symm.trans hf
    refine xr_sub [0, 1, 2, 3] (lv2 := [(0, mm_r v0), (2, mm_i v2), (3, mm_i v3), (4, mm_i v4)]) rfl ?_
    obtain ⟨z, hf2, rfl⟩ := mm_mp_e hf
    clear hf
    have hf := hf2
    clear hf2
    exact w_X2_leadsTo_112 C hf ko
  · replace hf := (if_neg hc).symm.trans hf
    exact w_X2_leadsTo_81 C hf ko
noncomputable def f_X2_leadsTo_66 (M : mm_M) (v0 : Option Nat) (v2 : Int32) (v3 : Int32) (v4 : Int32) (v5 : Option Nat) (v6 : Int32) : Option ((mm_M × Int32 × Int32) ⊕ ((mm_M × Int32 × Int32) ⊕ (Int32 × mm_M))) :=
  if v5 = none then mm_mp (f_X2_leadsTo_112 M v0 v2 v3 v4) else f_X2_leadsTo_71 M v0 v2 v3 v4 v5 v6
set_option maxRecDepth 20000 in
theorem w_X2_leadsTo_66 {g : mm_c} (C : mm_ok g cX2_leadsTo "LessonCards$Deck" (some .boolean) "leadsTo" 7 4 85 0 0) {M : mm_M} {v0 : Option Nat} {v2 : Int32} {v3 : Int32} {v4 : Int32} {v5 : Option Nat} {v6 : Int32} {res : (mm_M × Int32 × Int32) ⊕ ((mm_M × Int32 × Int32) ⊕ (Int32 × mm_M))} (hf : f_X2_leadsTo_66 M v0 v2 v3 v4 v5 v6 = some res) (ko : (mm_o (h_X2_leadsTo_66 g v0 v2 v4 v5) (mm_o (h_X2_leadsTo_34 g v0 v2) (fun z => mm_q g 0 0 (some (mm_i z.1)) z.2))) res) : mm_X g 0 0 M 66 [(0, mm_r v0), (2, mm_i v2), (3, mm_i v3), (4, mm_i v4), (5, mm_r v5), (6, mm_i v6)] [] := by
  unfold f_X2_leadsTo_66 at hf
  refine xr_aload 68 4 C dX2_leadsTo_66 rfl rfl ?_
  refine xr_ifnull 112 71 C dX2_leadsTo_68 (by decide) rfl (fun hc => ?_) (fun hc => ?_)
  · replace hf := (if_pos hc).symm.trans hf
    refine xr_sub [0, 1, 2, 3] (lv2 := [(0, mm_r v0), (2, mm_i v2), (3, mm_i v3), (4, mm_i v4)]) rfl ?_
    obtain ⟨z, hf2, rfl⟩ := mm_mp_e hf
    clear hf
    have hf := hf2
    clear hf2
    exact w_X2_leadsTo_112 C hf ko
  · replace hf := (if_neg hc).symm.trans hf
    exact w_X2_leadsTo_71 C hf ko
noncomputable def f_X2_leadsTo_66w (M : mm_M) (v0 : Option Nat) (v2 : Int32) (v3 : Int32) (v4 : Int32) (v5 : Option Nat) (v6 : Int32) : Option ((mm_M × Int32 × Int32) ⊕ (Int32 × mm_M)) := mm_w (fun x => f_X2_leadsTo_66 x.1 v0 v2 x.2.1 v4 v5 x.2.2) (M, v3, v6)
theorem l_X2_leadsTo_66 {g : mm_c} (C : mm_ok g cX2_leadsTo "LessonCards$Deck" (some .boolean) "leadsTo" 7 4 85 0 0) {M : mm_M} {v0 : Option Nat} {v2 : Int32} {v3 : Int32} {v4 : Int32} {v5 : Option Nat} {v6 : Int32} {res : (mm_M × Int32 × Int32) ⊕ (Int32 × mm_M)} (hf : f_X2_leadsTo_66w M v0 v2 v3 v4 v5 v6 = some res) (ko : (mm_o (h_X2_leadsTo_34 g v0 v2) (fun z => mm_q g 0 0 (some (mm_i z.1)) z.2)) res) : mm_X g 0 0 M 66 [(0, mm_r v0), (2, mm_i v2), (3, mm_i v3), (4, mm_i v4), (5, mm_r v5), (6, mm_i v6)] [] :=
  mm_w_W (body := fun x => f_X2_leadsTo_66 x.1 v0 v2 x.2.1 v4 v5 x.2.2) (Wh := h_X2_leadsTo_66 g v0 v2 v4 v5) (ok := (mm_o (h_X2_leadsTo_34 g v0 v2) (fun z => mm_q g 0 0 (some (mm_i z.1)) z.2))) (x := (M, v3, v6)) (fun x r hb ho => w_X2_leadsTo_66 C hb ho) hf ko
noncomputable def f_X2_leadsTo_50 (M : mm_M) (v0 : Option Nat) (v2 : Int32) (v3 : Int32) (v4 : Int32) : Option ((mm_M × Int32 × Int32) ⊕ (Int32 × mm_M)) :=
  (mm_fR M v0 3 1).bind fun x52 =>
  (mm_aI M x52 12 v4).bind fun x57 =>
  (mm_rc M v0 3).bind fun u58 =>
  (f_X2_cardAt M v0 x57).bind fun x58 =>
  f_X2_leadsTo_66w M v0 v2 v3 v4 x58 0
set_option maxRecDepth 20000 in
theorem w_X2_leadsTo_50 {g : mm_c} (C : mm_ok g cX2_leadsTo "LessonCards$Deck" (some .boolean) "leadsTo" 7 4 85 0 0) {M : mm_M} {v0 : Option Nat} {v2 : Int32} {v3 : Int32} {v4 : Int32} {res : (mm_M × Int32 × Int32) ⊕ (Int32 × mm_M)} (hf : f_X2_leadsTo_50 M v0 v2 v3 v4 = some res) (ko : (mm_o (h_X2_leadsTo_34 g v0 v2) (fun z => mm_q g 0 0 (some (mm_i z.1)) z.2)) res) : mm_X g 0 0 M 50 [(0, mm_r v0), (2, mm_i v2), (3, mm_i v3), (4, mm_i v4)] [] := by
  unfold f_X2_leadsTo_50 at hf
  refine xr_aload_n 51 0 C dX2_leadsTo_50 rfl rfl rfl ?_
  refine xr_aload_n 52 0 C dX2_leadsTo_51 rfl rfl rfl ?_
  obtain ⟨x52, h52, hf⟩ := mm_bd_e hf
  refine xr_getR 55 C cf_X2_18 rfl h52 dX2_leadsTo_52 rfl ?_
  refine xr_iload 57 3 C dX2_leadsTo_55 rfl rfl ?_
  obtain ⟨x57, h57, hf⟩ := mm_bd_e hf
  refine xr_aldI 58 C h57 dX2_leadsTo_57 rfl ?_
  obtain ⟨u58, g58, hf⟩ := mm_bd_e hf
  obtain ⟨x58, h58, hf⟩ := mm_bd_e hf
  refine xr_callV 61 C [mm_i x57] cm_X2_45 (fun l G cy => c_X2_cardAt l G cy h58) g58 rfl rfl ⟨⟨Nat.le_of_ble_eq_true rfl, Nat.le_of_ble_eq_true rfl⟩, (Nat.le_of_ble_eq_true rfl), (Nat.le_of_ble_eq_true rfl)⟩ (Nat.le_of_ble_eq_true rfl) dX2_leadsTo_58 rfl ?_
  refine xr_astore 63 C dX2_leadsTo_61 (by decide) rfl [(5, mm_r x58), (0, mm_r v0), (2, mm_i v2), (3, mm_i v3), (4, mm_i v4)] rfl ?_
  refine xr_iconst 64 C (v := 0) dX2_leadsTo_63 (by decide) rfl ?_
  refine xr_istore 66 C dX2_leadsTo_64 (by decide) rfl [(6, mm_i 0), (5, mm_r x58), (0, mm_r v0), (2, mm_i v2), (3, mm_i v3), (4, mm_i v4)] rfl ?_
  refine xr_sub [2, 3, 4, 5, 1, 0] (lv2 := [(0, mm_r v0), (2, mm_i v2), (3, mm_i v3), (4, mm_i v4), (5, mm_r x58), (6, mm_i 0)]) rfl ?_
  exact l_X2_leadsTo_66 C hf ko
noncomputable def f_X2_leadsTo_145 (M : mm_M) (s0 : Int32) : Option (Int32 × mm_M) :=
  mm_gd (s0 = 0 ∨ s0 = 1) <|
  some (s0, M)
set_option maxRecDepth 20000 in
theorem w_X2_leadsTo_145 {g : mm_c} (C : mm_ok g cX2_leadsTo "LessonCards$Deck" (some .boolean) "leadsTo" 7 4 85 0 0) {M : mm_M} {s0 : Int32} {res : Int32 × mm_M} (hf : f_X2_leadsTo_145 M s0 = some res) (ko : (fun z => mm_q g 0 0 (some (mm_i z.1)) z.2) res) : mm_X g 0 0 M 145 [] [mm_i s0] := by
  unfold f_X2_leadsTo_145 at hf
  obtain ⟨hz, hf⟩ := mm_gd_e hf
  obtain rfl := Option.some.inj hf
  exact xr_zret C hz ko ⟨(Nat.le_of_ble_eq_true rfl), (Nat.le_of_ble_eq_true rfl)⟩ dX2_leadsTo_145
noncomputable def f_X2_leadsTo_140 (M : mm_M) : Option (Int32 × mm_M) :=
  f_X2_leadsTo_145 M 1
set_option maxRecDepth 20000 in
theorem w_X2_leadsTo_140 {g : mm_c} (C : mm_ok g cX2_leadsTo "LessonCards$Deck" (some .boolean) "leadsTo" 7 4 85 0 0) {M : mm_M} {res : Int32 × mm_M} (hf : f_X2_leadsTo_140 M = some res) (ko : (fun z => mm_q g 0 0 (some (mm_i z.1)) z.2) res) : mm_X g 0 0 M 140 [] [] := by
  unfold f_X2_leadsTo_140 at hf
  refine xr_iconst 141 C (v := 1) dX2_leadsTo_140 (by decide) rfl ?_
  refine xr_goto 145 C dX2_leadsTo_141 (by decide) ?_
  exact w_X2_leadsTo_145 C hf ko
noncomputable def f_X2_leadsTo_144 (M : mm_M) : Option (Int32 × mm_M) :=
  f_X2_leadsTo_145 M 0
set_option maxRecDepth 20000 in
theorem w_X2_leadsTo_144 {g : mm_c} (C : mm_ok g cX2_leadsTo "LessonCards$Deck" (some .boolean) "leadsTo" 7 4 85 0 0) {M : mm_M} {res : Int32 × mm_M} (hf : f_X2_leadsTo_144 M = some res) (ko : (fun z => mm_q g 0 0 (some (mm_i z.1)) z.2) res) : mm_X g 0 0 M 144 [] [] := by
  unfold f_X2_leadsTo_144 at hf
  refine xr_iconst 145 C (v := 0) dX2_leadsTo_144 (by decide) rfl ?_
  exact w_X2_leadsTo_145 C hf ko
noncomputable def f_X2_leadsTo_131 (M : mm_M) (v0 : Option Nat) (v2 : Int32) : Option (Int32 × mm_M) :=
  (mm_fR M v0 3 2).bind fun x132 =>
  (mm_aI M x132 14 v2).bind fun x136 =>
  if x136 = 0 then f_X2_leadsTo_144 M else f_X2_leadsTo_140 M
set_option maxRecDepth 20000 in
theorem w_X2_leadsTo_131 {g : mm_c} (C : mm_ok g cX2_leadsTo "LessonCards$Deck" (some .boolean) "leadsTo" 7 4 85 0 0) {M : mm_M} {v0 : Option Nat} {v2 : Int32} {res : Int32 × mm_M} (hf : f_X2_leadsTo_131 M v0 v2 = some res) (ko : (fun z => mm_q g 0 0 (some (mm_i z.1)) z.2) res) : mm_X g 0 0 M 131 [(0, mm_r v0), (2, mm_i v2)] [] := by
  unfold f_X2_leadsTo_131 at hf
  refine xr_aload_n 132 0 C dX2_leadsTo_131 rfl rfl rfl ?_
  obtain ⟨x132, h132, hf⟩ := mm_bd_e hf
  refine xr_getR 135 C cf_X2_22 rfl h132 dX2_leadsTo_132 rfl ?_
  refine xr_iload_n 136 1 C dX2_leadsTo_135 rfl rfl rfl ?_
  obtain ⟨x136, h136, hf⟩ := mm_bd_e hf
  refine xr_aldZ 137 C h136 dX2_leadsTo_136 rfl ?_
  refine xr_if_eq 144 140 C dX2_leadsTo_137 (by decide) rfl (fun hc => ?_) (fun hc => ?_)
  · replace hf := (if_pos hc).symm.trans hf
    refine xr_sub [] (lv2 := []) rfl ?_
    exact w_X2_leadsTo_144 C hf ko
  · replace hf := (if_neg hc).symm.trans hf
    refine xr_sub [] (lv2 := []) rfl ?_
    exact w_X2_leadsTo_140 C hf ko
noncomputable def f_X2_leadsTo_122 (M : mm_M) (v0 : Option Nat) (v2 : Int32) : Option (Int32 × mm_M) :=
  (mm_fR M v0 3 2).bind fun x124 =>
  (mm_ln M x124).bind fun x127 =>
  if x127 ≤ v2 then f_X2_leadsTo_144 M else f_X2_leadsTo_131 M v0 v2
set_option maxRecDepth 20000 in
theorem w_X2_leadsTo_122 {g : mm_c} (C : mm_ok g cX2_leadsTo "LessonCards$Deck" (some .boolean) "leadsTo" 7 4 85 0 0) {M : mm_M} {v0 : Option Nat} {v2 : Int32} {res : Int32 × mm_M} (hf : f_X2_leadsTo_122 M v0 v2 = some res) (ko : (fun z => mm_q g 0 0 (some (mm_i z.1)) z.2) res) : mm_X g 0 0 M 122 [(0, mm_r v0), (2, mm_i v2)] [] := by
  unfold f_X2_leadsTo_122 at hf
  refine xr_iload_n 123 1 C dX2_leadsTo_122 rfl rfl rfl ?_
  refine xr_aload_n 124 0 C dX2_leadsTo_123 rfl rfl rfl ?_
  obtain ⟨x124, h124, hf⟩ := mm_bd_e hf
  refine xr_getR 127 C cf_X2_22 rfl h124 dX2_leadsTo_124 rfl ?_
  obtain ⟨x127, h127, hf⟩ := mm_bd_e hf
  refine xr_alen 128 C h127 dX2_leadsTo_127 rfl ?_
  refine xr_icmp_ge 144 131 C dX2_leadsTo_128 (by decide) rfl (fun hc => ?_) (fun hc => ?_)
  · replace hf := (if_pos hc).symm.trans hf
    refine xr_sub [] (lv2 := []) rfl ?_
    exact w_X2_leadsTo_144 C hf ko
  · replace hf := (if_neg hc).symm.trans hf
    exact w_X2_leadsTo_131 C hf ko
noncomputable def f_X2_leadsTo_118 (M : mm_M) (v0 : Option Nat) (v2 : Int32) : Option (Int32 × mm_M) :=
  if v2 < 0 then f_X2_leadsTo_144 M else f_X2_leadsTo_122 M v0 v2
set_option maxRecDepth 20000 in
theorem w_X2_leadsTo_118 {g : mm_c} (C : mm_ok g cX2_leadsTo "LessonCards$Deck" (some .boolean) "leadsTo" 7 4 85 0 0) {M : mm_M} {v0 : Option Nat} {v2 : Int32} {res : Int32 × mm_M} (hf : f_X2_leadsTo_118 M v0 v2 = some res) (ko : (fun z => mm_q g 0 0 (some (mm_i z.1)) z.2) res) : mm_X g 0 0 M 118 [(0, mm_r v0), (2, mm_i v2)] [] := by
  unfold f_X2_leadsTo_118 at hf
  refine xr_iload_n 119 1 C dX2_leadsTo_118 rfl rfl rfl ?_
  refine xr_if_lt 144 122 C dX2_leadsTo_119 (by decide) rfl (fun hc => ?_) (fun hc => ?_)
  · replace hf := (if_pos hc).symm.trans hf
    refine xr_sub [] (lv2 := []) rfl ?_
    exact w_X2_leadsTo_144 C hf ko
  · replace hf := (if_neg hc).symm.trans hf
    exact w_X2_leadsTo_122 C hf ko
noncomputable def f_X2_leadsTo_40 (M : mm_M) (v0 : Option Nat) (v2 : Int32) (v3 : Int32) (v4 : Int32) : Option ((mm_M × Int32 × Int32) ⊕ (Int32 × mm_M)) :=
  (mm_fR M v0 3 1).bind fun x43 =>
  (mm_ln M x43).bind fun x46 =>
  if x46 ≤ v4 then mm_mp (f_X2_leadsTo_118 M v0 v2) else f_X2_leadsTo_50 M v0 v2 v3 v4
set_option maxRecDepth 20000 in
theorem w_X2_leadsTo_40 {g : mm_c} (C : mm_ok g cX2_leadsTo "LessonCards$Deck" (some .boolean) "leadsTo" 7 4 85 0 0) {M : mm_M} {v0 : Option Nat} {v2 : Int32} {v3 : Int32} {v4 : Int32} {res : (mm_M × Int32 × Int32) ⊕ (Int32 × mm_M)} (hf : f_X2_leadsTo_40 M v0 v2 v3 v4 = some res) (ko : (mm_o (h_X2_leadsTo_34 g v0 v2) (fun z => mm_q g 0 0 (some (mm_i z.1)) z.2)) res) : mm_X g 0 0 M 40 [(0, mm_r v0), (2, mm_i v2), (3, mm_i v3), (4, mm_i v4)] [] := by
  unfold f_X2_leadsTo_40 at hf
  refine xr_iload 42 3 C dX2_leadsTo_40 rfl rfl ?_
  refine xr_aload_n 43 0 C dX2_leadsTo_42 rfl rfl rfl ?_
  obtain ⟨x43, h43, hf⟩ := mm_bd_e hf
  refine xr_getR 46 C cf_X2_18 rfl h43 dX2_leadsTo_43 rfl ?_
  obtain ⟨x46, h46, hf⟩ := mm_bd_e hf
  refine xr_alen 47 C h46 dX2_leadsTo_46 rfl ?_
  refine xr_icmp_ge 118 50 C dX2_leadsTo_47 (by decide) rfl (fun hc => ?_) (fun hc => ?_)
  · replace hf := (if_pos hc).symm.trans hf
    refine xr_sub [0, 1] (lv2 := [(0, mm_r v0), (2, mm_i v2)]) rfl ?_
    obtain ⟨z, hf2, rfl⟩ := mm_mp_e hf
    clear hf
    have hf := hf2
    clear hf2
    exact w_X2_leadsTo_118 C hf ko
  · replace hf := (if_neg hc).symm.trans hf
    exact w_X2_leadsTo_50 C hf ko
noncomputable def f_X2_leadsTo_34 (M : mm_M) (v0 : Option Nat) (v2 : Int32) (v3 : Int32) (v4 : Int32) : Option ((mm_M × Int32 × Int32) ⊕ (Int32 × mm_M)) :=
  if v3 ≤ v4 then mm_mp (f_X2_leadsTo_118 M v0 v2) else f_X2_leadsTo_40 M v0 v2 v3 v4
set_option maxRecDepth 20000 in
theorem w_X2_leadsTo_34 {g : mm_c} (C : mm_ok g cX2_leadsTo "LessonCards$Deck" (some .boolean) "leadsTo" 7 4 85 0 0) {M : mm_M} {v0 : Option Nat} {v2 : Int32} {v3 : Int32} {v4 : Int32} {res : (mm_M × Int32 × Int32) ⊕ (Int32 × mm_M)} (hf : f_X2_leadsTo_34 M v0 v2 v3 v4 = some res) (ko : (mm_o (h_X2_leadsTo_34 g v0 v2) (fun z => mm_q g 0 0 (some (mm_i z.1)) z.2)) res) : mm_X g 0 0 M 34 [(0, mm_r v0), (2, mm_i v2), (3, mm_i v3), (4, mm_i v4)] [] := by
  unfold f_X2_leadsTo_34 at hf
  refine xr_iload 36 3 C dX2_leadsTo_34 rfl rfl ?_
  refine xr_iload_n 37 2 C dX2_leadsTo_36 rfl rfl rfl ?_
  refine xr_icmp_ge 118 40 C dX2_leadsTo_37 (by decide) rfl (fun hc => ?_) (fun hc => ?_)
  · replace hf := (if_pos hc).symm.trans hf
    refine xr_sub [0, 1] (lv2 := [(0, mm_r v0), (2, mm_i v2)]) rfl ?_
    obtain ⟨z, hf2, rfl⟩ := mm_mp_e hf
    clear hf
    have hf := hf2
    clear hf2
    exact w_X2_leadsTo_118 C hf ko
  · replace hf := (if_neg hc).symm.trans hf
    exact w_X2_leadsTo_40 C hf ko
noncomputable def f_X2_leadsTo_34w (M : mm_M) (v0 : Option Nat) (v2 : Int32) (v3 : Int32) (v4 : Int32) : Option (Int32 × mm_M) := mm_w (fun x => f_X2_leadsTo_34 x.1 v0 v2 x.2.1 x.2.2) (M, v3, v4)
theorem l_X2_leadsTo_34 {g : mm_c} (C : mm_ok g cX2_leadsTo "LessonCards$Deck" (some .boolean) "leadsTo" 7 4 85 0 0) {M : mm_M} {v0 : Option Nat} {v2 : Int32} {v3 : Int32} {v4 : Int32} {res : Int32 × mm_M} (hf : f_X2_leadsTo_34w M v0 v2 v3 v4 = some res) (ko : (fun z => mm_q g 0 0 (some (mm_i z.1)) z.2) res) : mm_X g 0 0 M 34 [(0, mm_r v0), (2, mm_i v2), (3, mm_i v3), (4, mm_i v4)] [] :=
  mm_w_W (body := fun x => f_X2_leadsTo_34 x.1 v0 v2 x.2.1 x.2.2) (Wh := h_X2_leadsTo_34 g v0 v2) (ok := (fun z => mm_q g 0 0 (some (mm_i z.1)) z.2)) (x := (M, v3, v4)) (fun x r hb ho => w_X2_leadsTo_34 C hb ho) hf ko
noncomputable def f_X2_leadsTo_24 (M : mm_M) (v0 : Option Nat) (v1 : Int32) (v2 : Int32) : Option (Int32 × mm_M) :=
  (mm_rc M v0 3).bind fun u27 =>
  mm_b2 (f_X2_reach M v0 v1 0) fun x27 M27 =>
  f_X2_leadsTo_34w M27 v0 v2 x27 0
set_option maxRecDepth 20000 in
theorem w_X2_leadsTo_24 {g : mm_c} (C : mm_ok g cX2_leadsTo "LessonCards$Deck" (some .boolean) "leadsTo" 7 4 85 0 0) {M : mm_M} {v0 : Option Nat} {v1 : Int32} {v2 : Int32} {res : Int32 × mm_M} (hf : f_X2_leadsTo_24 M v0 v1 v2 = some res) (ko : (fun z => mm_q g 0 0 (some (mm_i z.1)) z.2) res) : mm_X g 0 0 M 24 [(0, mm_r v0), (1, mm_i v1), (2, mm_i v2)] [] := by
  unfold f_X2_leadsTo_24 at hf
  refine xr_aload_n 25 0 C dX2_leadsTo_24 rfl rfl rfl ?_
  refine xr_iload_n 26 1 C dX2_leadsTo_25 rfl rfl rfl ?_
  refine xr_iconst 27 C (v := 0) dX2_leadsTo_26 (by decide) rfl ?_
  obtain ⟨u27, g27, hf⟩ := mm_bd_e hf
  obtain ⟨x27, M27, h27, hf⟩ := mm_b2_e hf
  refine xr_callV 30 C [mm_i v1, mm_i 0] cm_X2_41 (fun l G cy => c_X2_reach l G cy h27) g27 rfl rfl ⟨⟨Nat.le_of_ble_eq_true rfl, Nat.le_of_ble_eq_true rfl⟩, (Nat.le_of_ble_eq_true rfl), (Nat.le_of_ble_eq_true rfl)⟩ (Nat.le_of_ble_eq_true rfl) dX2_leadsTo_27 rfl ?_
  refine xr_istore_n 31 C dX2_leadsTo_30 rfl (by decide) rfl [(3, mm_i x27), (0, mm_r v0), (1, mm_i v1), (2, mm_i v2)] rfl ?_
  refine xr_iconst 32 C (v := 0) dX2_leadsTo_31 (by decide) rfl ?_
  refine xr_istore 34 C dX2_leadsTo_32 (by decide) rfl [(4, mm_i 0), (3, mm_i x27), (0, mm_r v0), (1, mm_i v1), (2, mm_i v2)] rfl ?_
  refine xr_sub [2, 4, 1, 0] (lv2 := [(0, mm_r v0), (2, mm_i v2), (3, mm_i x27), (4, mm_i 0)]) rfl ?_
  exact l_X2_leadsTo_34 C hf ko
noncomputable def f_X2_leadsTo_2 (M : mm_M) (v0 : Option Nat) (v1 : Int32) (v2 : Int32) (v3 : Int32) : Option ((mm_M × Int32) ⊕ (Int32 × mm_M)) :=
  (mm_fR M v0 3 2).bind fun x4 =>
  (mm_ln M x4).bind fun x7 =>
  if x7 ≤ v3 then mm_mp (f_X2_leadsTo_24 M v0 v1 v2) else f_X2_leadsTo_11 M v0 v1 v2 v3
set_option maxRecDepth 20000 in
theorem w_X2_leadsTo_2 {g : mm_c} (C : mm_ok g cX2_leadsTo "LessonCards$Deck" (some .boolean) "leadsTo" 7 4 85 0 0) {M : mm_M} {v0 : Option Nat} {v1 : Int32} {v2 : Int32} {v3 : Int32} {res : (mm_M × Int32) ⊕ (Int32 × mm_M)} (hf : f_X2_leadsTo_2 M v0 v1 v2 v3 = some res) (ko : (mm_o (h_X2_leadsTo_2 g v0 v1 v2) (fun z => mm_q g 0 0 (some (mm_i z.1)) z.2)) res) : mm_X g 0 0 M 2 [(0, mm_r v0), (1, mm_i v1), (2, mm_i v2), (3, mm_i v3)] [] := by
  unfold f_X2_leadsTo_2 at hf
  refine xr_iload_n 3 3 C dX2_leadsTo_2 rfl rfl rfl ?_
  refine xr_aload_n 4 0 C dX2_leadsTo_3 rfl rfl rfl ?_
  obtain ⟨x4, h4, hf⟩ := mm_bd_e hf
  refine xr_getR 7 C cf_X2_22 rfl h4 dX2_leadsTo_4 rfl ?_
  obtain ⟨x7, h7, hf⟩ := mm_bd_e hf
  refine xr_alen 8 C h7 dX2_leadsTo_7 rfl ?_
  refine xr_icmp_ge 24 11 C dX2_leadsTo_8 (by decide) rfl (fun hc => ?_) (fun hc => ?_)
  · replace hf := (if_pos hc).symm.trans hf
    refine xr_sub [0, 1, 2] (lv2 := [(0, mm_r v0), (1, mm_i v1), (2, mm_i v2)]) rfl ?_
    obtain ⟨z, hf2, rfl⟩ := mm_mp_e hf
    clear hf
    have hf := hf2
    clear hf2
    exact w_X2_leadsTo_24 C hf ko
  · replace hf := (if_neg hc).symm.trans hf
    exact w_X2_leadsTo_11 C hf ko
noncomputable def f_X2_leadsTo_2w (M : mm_M) (v0 : Option Nat) (v1 : Int32) (v2 : Int32) (v3 : Int32) : Option (Int32 × mm_M) := mm_w (fun x => f_X2_leadsTo_2 x.1 v0 v1 v2 x.2) (M, v3)
theorem l_X2_leadsTo_2 {g : mm_c} (C : mm_ok g cX2_leadsTo "LessonCards$Deck" (some .boolean) "leadsTo" 7 4 85 0 0) {M : mm_M} {v0 : Option Nat} {v1 : Int32} {v2 : Int32} {v3 : Int32} {res : Int32 × mm_M} (hf : f_X2_leadsTo_2w M v0 v1 v2 v3 = some res) (ko : (fun z => mm_q g 0 0 (some (mm_i z.1)) z.2) res) : mm_X g 0 0 M 2 [(0, mm_r v0), (1, mm_i v1), (2, mm_i v2), (3, mm_i v3)] [] :=
  mm_w_W (body := fun x => f_X2_leadsTo_2 x.1 v0 v1 v2 x.2) (Wh := h_X2_leadsTo_2 g v0 v1 v2) (ok := (fun z => mm_q g 0 0 (some (mm_i z.1)) z.2)) (x := (M, v3)) (fun x r hb ho => w_X2_leadsTo_2 C hb ho) hf ko
noncomputable def f_X2_leadsTo_0 (M : mm_M) (v0 : Option Nat) (v1 : Int32) (v2 : Int32) : Option (Int32 × mm_M) :=
  f_X2_leadsTo_2w M v0 v1 v2 0
set_option maxRecDepth 20000 in
theorem w_X2_leadsTo_0 {g : mm_c} (C : mm_ok g cX2_leadsTo "LessonCards$Deck" (some .boolean) "leadsTo" 7 4 85 0 0) {M : mm_M} {v0 : Option Nat} {v1 : Int32} {v2 : Int32} {res : Int32 × mm_M} (hf : f_X2_leadsTo_0 M v0 v1 v2 = some res) (ko : (fun z => mm_q g 0 0 (some (mm_i z.1)) z.2) res) : mm_X g 0 0 M 0 [(0, mm_r v0), (1, mm_i v1), (2, mm_i v2)] [] := by
  unfold f_X2_leadsTo_0 at hf
  refine xr_iconst 1 C (v := 0) dX2_leadsTo_0 (by decide) rfl ?_
  refine xr_istore_n 2 C dX2_leadsTo_1 rfl (by decide) rfl [(3, mm_i 0), (0, mm_r v0), (1, mm_i v1), (2, mm_i v2)] rfl ?_
  refine xr_sub [1, 2, 3, 0] (lv2 := [(0, mm_r v0), (1, mm_i v1), (2, mm_i v2), (3, mm_i 0)]) rfl ?_
  exact l_X2_leadsTo_2 C hf ko
noncomputable def f_X2_leadsTo (M : mm_M) (v0 : Option Nat) (v1 : Int32) (v2 : Int32) : Option (Int32 × mm_M) := f_X2_leadsTo_0 M v0 v1 v2
theorem c_X2_leadsTo (l : Launch) (G : va_G) (cy : Nat → ClassId) {M : mm_M} {v0 : Option Nat} {v1 : Int32} {v2 : Int32} {r : Int32} {M1 : mm_M} (hf : f_X2_leadsTo M v0 v1 v2 = some (r, M1)) : mm_Met l yX2_leadsTo cX2_leadsTo 7 (some .boolean) 4 85 0 0 G cy [mm_r v0, mm_i v1, mm_i v2] M (some (mm_i r)) M1 :=
  mm_enter (by decide) (Nat.le_of_ble_eq_true rfl) (fun p e R s m args below meth c Q C hq => xr_sub [0, 1, 2] (lv2 := [(0, mm_r v0), (1, mm_i v1), (2, mm_i v2)]) rfl (w_X2_leadsTo_0 C hf hq))
noncomputable def f_X3_init_0 (M : mm_M) (v0 : Nat) (v1 : Int32) (v2 : Int32) (v3 : Int32) (v4 : Int32) (v5 : Int32) (v6 : Int32) (v7 : Option Nat) : Option (mm_M) :=
  (mm_pI M (some v0) 4 0 v1).bind fun M6 =>
  (mm_pI M6 (some v0) 4 1 v2).bind fun M11 =>
  (mm_pI M11 (some v0) 4 2 v3).bind fun M16 =>
  (mm_pI M16 (some v0) 4 3 v4).bind fun M22 =>
  (mm_pI M22 (some v0) 4 4 v5).bind fun M28 =>
  (mm_pI M28 (some v0) 4 5 v6).bind fun M34 =>
  (mm_pR M34 (some v0) 4 6 v7).bind fun M40 =>
  some M40
set_option maxRecDepth 20000 in
theorem w_X3_init_0 {g : mm_c} (C : mm_ok g cX3_init "LessonCards$Entry" none "<init>" 8 1 20 0 0) {M : mm_M} {v0 : Nat} {v1 : Int32} {v2 : Int32} {v3 : Int32} {v4 : Int32} {v5 : Int32} {v6 : Int32} {v7 : Option Nat} {res : mm_M} (hf : f_X3_init_0 M v0 v1 v2 v3 v4 v5 v6 v7 = some res) (ko : (fun z => mm_q g 0 0 none z) res) : mm_X g 0 0 M 0 [(0, mm_r (some v0)), (1, mm_i v1), (2, mm_i v2), (3, mm_i v3), (4, mm_i v4), (5, mm_i v5), (6, mm_i v6), (7, mm_r v7)] [] := by
  unfold f_X3_init_0 at hf
  refine xr_aload_n 1 0 C dX3_init_0 rfl rfl rfl ?_
  refine xr_oinit 4 C wd_587 wd_72 wd_73 ⟨Nat.le_of_ble_eq_true rfl, Nat.le_of_ble_eq_true rfl⟩ (Nat.le_of_ble_eq_true rfl) dX3_init_1 rfl ?_
  refine xr_aload_n 5 0 C dX3_init_4 rfl rfl rfl ?_
  refine xr_iload_n 6 1 C dX3_init_5 rfl rfl rfl ?_
  obtain ⟨M6, h6, hf⟩ := mm_bd_e hf
  refine xr_putI 9 C cf_X3_9 (fun _ => ⟨rfl, co_4_0⟩) h6 dX3_init_6 rfl ?_
  refine xr_aload_n 10 0 C dX3_init_9 rfl rfl rfl ?_
  refine xr_iload_n 11 2 C dX3_init_10 rfl rfl rfl ?_
  obtain ⟨M11, h11, hf⟩ := mm_bd_e hf
  refine xr_putI 14 C cf_X3_15 (fun _ => ⟨rfl, co_4_1⟩) h11 dX3_init_11 rfl ?_
  refine xr_aload_n 15 0 C dX3_init_14 rfl rfl rfl ?_
  refine xr_iload_n 16 3 C dX3_init_15 rfl rfl rfl ?_
  obtain ⟨M16, h16, hf⟩ := mm_bd_e hf
  refine xr_putI 19 C cf_X3_18 (fun _ => ⟨rfl, co_4_2⟩) h16 dX3_init_16 rfl ?_
  refine xr_aload_n 20 0 C dX3_init_19 rfl rfl rfl ?_
  refine xr_iload 22 4 C dX3_init_20 rfl rfl ?_
  obtain ⟨M22, h22, hf⟩ := mm_bd_e hf
  refine xr_putI 25 C cf_X3_21 (fun _ => ⟨rfl, co_4_3⟩) h22 dX3_init_22 rfl ?_
  refine xr_aload_n 26 0 C dX3_init_25 rfl rfl rfl ?_
  refine xr_iload 28 5 C dX3_init_26 rfl rfl ?_
  obtain ⟨M28, h28, hf⟩ := mm_bd_e hf
  refine xr_putI 31 C cf_X3_24 (fun _ => ⟨rfl, co_4_4⟩) h28 dX3_init_28 rfl ?_
  refine xr_aload_n 32 0 C dX3_init_31 rfl rfl rfl ?_
  refine xr_iload 34 6 C dX3_init_32 rfl rfl ?_
  obtain ⟨M34, h34, hf⟩ := mm_bd_e hf
  refine xr_putI 37 C cf_X3_27 (fun _ => ⟨rfl, co_4_5⟩) h34 dX3_init_34 rfl ?_
  refine xr_aload_n 38 0 C dX3_init_37 rfl rfl rfl ?_
  refine xr_aload 40 7 C dX3_init_38 rfl rfl ?_
  obtain ⟨M40, h40, hf⟩ := mm_bd_e hf
  refine xr_putR 43 C cf_X3_30 (fun _ => ⟨rfl, co_4_6⟩) h40 dX3_init_40 rfl ?_
  obtain rfl := Option.some.inj hf
  exact xr_vret C ko ⟨(Nat.le_of_ble_eq_true rfl), (Nat.le_of_ble_eq_true rfl)⟩ dX3_init_43
noncomputable def f_X3_init (M : mm_M) (v0 : Nat) (v1 : Int32) (v2 : Int32) (v3 : Int32) (v4 : Int32) (v5 : Int32) (v6 : Int32) (v7 : Option Nat) : Option (mm_M) := f_X3_init_0 M v0 v1 v2 v3 v4 v5 v6 v7
theorem c_X3_init (l : Launch) (G : va_G) (cy : Nat → ClassId) {M : mm_M} {v0 : Nat} {v1 : Int32} {v2 : Int32} {v3 : Int32} {v4 : Int32} {v5 : Int32} {v6 : Int32} {v7 : Option Nat} {M1 : mm_M} (hf : f_X3_init M v0 v1 v2 v3 v4 v5 v6 v7 = some M1) : mm_Met l yX3_init cX3_init 8 none 1 20 0 0 G cy [mm_r (some v0), mm_i v1, mm_i v2, mm_i v3, mm_i v4, mm_i v5, mm_i v6, mm_r v7] M none M1 :=
  mm_enter (by decide) (Nat.le_of_ble_eq_true rfl) (fun p e R s m args below meth c Q C hq => xr_sub [0, 1, 2, 3, 4, 5, 6, 7] (lv2 := [(0, mm_r (some v0)), (1, mm_i v1), (2, mm_i v2), (3, mm_i v3), (4, mm_i v4), (5, mm_i v5), (6, mm_i v6), (7, mm_r v7)]) rfl (w_X3_init_0 C hf hq))
noncomputable def f_X3_tell_65 (M : mm_M) : Option (Int32) :=
  some (-1)
set_option maxRecDepth 20000 in
theorem w_X3_tell_65 {g : mm_c} (C : mm_ok g cX3_tell "LessonCards$Entry" (some .int) "tell" 2 0 0 0 0) {M : mm_M} {res : Int32} (hf : f_X3_tell_65 M = some res) (ko : (fun z => mm_q g 0 0 (some (mm_i z)) M) res) : mm_X g 0 0 M 65 [] [] := by
  unfold f_X3_tell_65 at hf
  refine xr_iconst 66 C (v := (-1)) dX3_tell_65 (by decide) rfl ?_
  obtain rfl := Option.some.inj hf
  exact xr_iret C ko ⟨(Nat.le_of_ble_eq_true rfl), (Nat.le_of_ble_eq_true rfl)⟩ dX3_tell_66
noncomputable def f_X3_tell_36 (M : mm_M) (v0 : Option Nat) : Option (Int32) :=
  (mm_fI M v0 4 0).bind fun x37 =>
  some x37
set_option maxRecDepth 20000 in
theorem w_X3_tell_36 {g : mm_c} (C : mm_ok g cX3_tell "LessonCards$Entry" (some .int) "tell" 2 0 0 0 0) {M : mm_M} {v0 : Option Nat} {res : Int32} (hf : f_X3_tell_36 M v0 = some res) (ko : (fun z => mm_q g 0 0 (some (mm_i z)) M) res) : mm_X g 0 0 M 36 [(0, mm_r v0)] [] := by
  unfold f_X3_tell_36 at hf
  refine xr_aload_n 37 0 C dX3_tell_36 rfl rfl rfl ?_
  obtain ⟨x37, h37, hf⟩ := mm_bd_e hf
  refine xr_getI 40 C cf_X3_9 rfl h37 dX3_tell_37 rfl ?_
  obtain rfl := Option.some.inj hf
  exact xr_iret C ko ⟨(Nat.le_of_ble_eq_true rfl), (Nat.le_of_ble_eq_true rfl)⟩ dX3_tell_40
noncomputable def f_X3_tell_41 (M : mm_M) (v0 : Option Nat) : Option (Int32) :=
  (mm_fI M v0 4 1).bind fun x42 =>
  some (x42 / 4)
set_option maxRecDepth 20000 in
theorem w_X3_tell_41 {g : mm_c} (C : mm_ok g cX3_tell "LessonCards$Entry" (some .int) "tell" 2 0 0 0 0) {M : mm_M} {v0 : Option Nat} {res : Int32} (hf : f_X3_tell_41 M v0 = some res) (ko : (fun z => mm_q g 0 0 (some (mm_i z)) M) res) : mm_X g 0 0 M 41 [(0, mm_r v0)] [] := by
  unfold f_X3_tell_41 at hf
  refine xr_aload_n 42 0 C dX3_tell_41 rfl rfl rfl ?_
  obtain ⟨x42, h42, hf⟩ := mm_bd_e hf
  refine xr_getI 45 C cf_X3_15 rfl h42 dX3_tell_42 rfl ?_
  refine xr_iconst 46 C (v := 4) dX3_tell_45 (by decide) rfl ?_
  refine xr_idiv 47 C dX3_tell_46 (by decide) rfl ?_
  obtain rfl := Option.some.inj hf
  exact xr_iret C ko ⟨(Nat.le_of_ble_eq_true rfl), (Nat.le_of_ble_eq_true rfl)⟩ dX3_tell_47
noncomputable def f_X3_tell_48 (M : mm_M) (v0 : Option Nat) : Option (Int32) :=
  (mm_fI M v0 4 1).bind fun x49 =>
  some (x49 - x49 / 4 * 4)
set_option maxRecDepth 20000 in
theorem w_X3_tell_48 {g : mm_c} (C : mm_ok g cX3_tell "LessonCards$Entry" (some .int) "tell" 2 0 0 0 0) {M : mm_M} {v0 : Option Nat} {res : Int32} (hf : f_X3_tell_48 M v0 = some res) (ko : (fun z => mm_q g 0 0 (some (mm_i z)) M) res) : mm_X g 0 0 M 48 [(0, mm_r v0)] [] := by
  unfold f_X3_tell_48 at hf
  refine xr_aload_n 49 0 C dX3_tell_48 rfl rfl rfl ?_
  obtain ⟨x49, h49, hf⟩ := mm_bd_e hf
  refine xr_getI 52 C cf_X3_15 rfl h49 dX3_tell_49 rfl ?_
  refine xr_iconst 53 C (v := 4) dX3_tell_52 (by decide) rfl ?_
  refine xr_irem 54 C dX3_tell_53 (by decide) rfl ?_
  obtain rfl := Option.some.inj hf
  exact xr_iret C ko ⟨(Nat.le_of_ble_eq_true rfl), (Nat.le_of_ble_eq_true rfl)⟩ dX3_tell_54
noncomputable def f_X3_tell_55 (M : mm_M) (v0 : Option Nat) : Option (Int32) :=
  (mm_fI M v0 4 2).bind fun x56 =>
  some x56
set_option maxRecDepth 20000 in
theorem w_X3_tell_55 {g : mm_c} (C : mm_ok g cX3_tell "LessonCards$Entry" (some .int) "tell" 2 0 0 0 0) {M : mm_M} {v0 : Option Nat} {res : Int32} (hf : f_X3_tell_55 M v0 = some res) (ko : (fun z => mm_q g 0 0 (some (mm_i z)) M) res) : mm_X g 0 0 M 55 [(0, mm_r v0)] [] := by
  unfold f_X3_tell_55 at hf
  refine xr_aload_n 56 0 C dX3_tell_55 rfl rfl rfl ?_
  obtain ⟨x56, h56, hf⟩ := mm_bd_e hf
  refine xr_getI 59 C cf_X3_18 rfl h56 dX3_tell_56 rfl ?_
  obtain rfl := Option.some.inj hf
  exact xr_iret C ko ⟨(Nat.le_of_ble_eq_true rfl), (Nat.le_of_ble_eq_true rfl)⟩ dX3_tell_59
noncomputable def f_X3_tell_60 (M : mm_M) (v0 : Option Nat) : Option (Int32) :=
  (mm_fI M v0 4 3).bind fun x61 =>
  some x61
set_option maxRecDepth 20000 in
theorem w_X3_tell_60 {g : mm_c} (C : mm_ok g cX3_tell "LessonCards$Entry" (some .int) "tell" 2 0 0 0 0) {M : mm_M} {v0 : Option Nat} {res : Int32} (hf : f_X3_tell_60 M v0 = some res) (ko : (fun z => mm_q g 0 0 (some (mm_i z)) M) res) : mm_X g 0 0 M 60 [(0, mm_r v0)] [] := by
  unfold f_X3_tell_60 at hf
  refine xr_aload_n 61 0 C dX3_tell_60 rfl rfl rfl ?_
  obtain ⟨x61, h61, hf⟩ := mm_bd_e hf
  refine xr_getI 64 C cf_X3_21 rfl h61 dX3_tell_61 rfl ?_
  obtain rfl := Option.some.inj hf
  exact xr_iret C ko ⟨(Nat.le_of_ble_eq_true rfl), (Nat.le_of_ble_eq_true rfl)⟩ dX3_tell_64
noncomputable def f_X3_tell_0 (M : mm_M) (v0 : Option Nat) (v1 : Int32) : Option (Int32) :=
  if v1 = 0 then f_X3_tell_36 M v0 else if v1 = 1 then f_X3_tell_41 M v0 else if v1 = 2 then f_X3_tell_48 M v0 else if v1 = 3 then f_X3_tell_55 M v0 else if v1 = 4 then f_X3_tell_60 M v0 else f_X3_tell_65 M
set_option maxRecDepth 20000 in
theorem w_X3_tell_0 {g : mm_c} (C : mm_ok g cX3_tell "LessonCards$Entry" (some .int) "tell" 2 0 0 0 0) {M : mm_M} {v0 : Option Nat} {v1 : Int32} {res : Int32} (hf : f_X3_tell_0 M v0 v1 = some res) (ko : (fun z => mm_q g 0 0 (some (mm_i z)) M) res) : mm_X g 0 0 M 0 [(0, mm_r v0), (1, mm_i v1)] [] := by
  unfold f_X3_tell_0 at hf
  refine xr_iload_n 1 1 C dX3_tell_0 rfl rfl rfl ?_
  rcases mm_if_e hf with ⟨hc0, hf⟩ | ⟨hc0, hf⟩
  · refine xr_tin 36 C dX3_tell_1 (off := 35) hc0 (by decide) (by decide) (by decide) (by decide) ?_
    refine xr_sub [0] (lv2 := [(0, mm_r v0)]) rfl ?_
    exact w_X3_tell_36 C hf ko
  ·
    rcases mm_if_e hf with ⟨hc1, hf⟩ | ⟨hc1, hf⟩
    · refine xr_tin 41 C dX3_tell_1 (off := 40) hc1 (by decide) (by decide) (by decide) (by decide) ?_
      refine xr_sub [0] (lv2 := [(0, mm_r v0)]) rfl ?_
      exact w_X3_tell_41 C hf ko
    ·
      rcases mm_if_e hf with ⟨hc2, hf⟩ | ⟨hc2, hf⟩
      · refine xr_tin 48 C dX3_tell_1 (off := 47) hc2 (by decide) (by decide) (by decide) (by decide) ?_
        refine xr_sub [0] (lv2 := [(0, mm_r v0)]) rfl ?_
        exact w_X3_tell_48 C hf ko
      ·
        rcases mm_if_e hf with ⟨hc3, hf⟩ | ⟨hc3, hf⟩
        · refine xr_tin 55 C dX3_tell_1 (off := 54) hc3 (by decide) (by decide) (by decide) (by decide) ?_
          refine xr_sub [0] (lv2 := [(0, mm_r v0)]) rfl ?_
          exact w_X3_tell_55 C hf ko
        ·
          rcases mm_if_e hf with ⟨hc4, hf⟩ | ⟨hc4, hf⟩
          · refine xr_tin 60 C dX3_tell_1 (off := 59) hc4 (by decide) (by decide) (by decide) (by decide) ?_
            refine xr_sub [0] (lv2 := [(0, mm_r v0)]) rfl ?_
            exact w_X3_tell_60 C hf ko
          ·
            refine xr_tout 65 C dX3_tell_1 (mm_swd _ 4 (by decide) (fun k hk => by rcases (show k = 0 ∨ k = 1 ∨ k = 2 ∨ k = 3 ∨ k = 4 by omega) with rfl | rfl | rfl | rfl | rfl <;> assumption)) (by decide) ?_
            refine xr_sub [] (lv2 := []) rfl ?_
            exact w_X3_tell_65 C hf ko
noncomputable def f_X3_tell (M : mm_M) (v0 : Option Nat) (v1 : Int32) : Option (Int32) := f_X3_tell_0 M v0 v1
theorem c_X3_tell (l : Launch) (G : va_G) (cy : Nat → ClassId) {M : mm_M} {v0 : Option Nat} {v1 : Int32} {r : Int32} (hf : f_X3_tell M v0 v1 = some r) : mm_Met l yX3_tell cX3_tell 2 (some .int) 0 0 0 0 G cy [mm_r v0, mm_i v1] M (some (mm_i r)) M :=
  mm_enter (by decide) (Nat.le_of_ble_eq_true rfl) (fun p e R s m args below meth c Q C hq => xr_sub [0, 1] (lv2 := [(0, mm_r v0), (1, mm_i v1)]) rfl (w_X3_tell_0 C hf hq))
noncomputable def f_X4_init_0 (M : mm_M) (v0 : Nat) : Option (mm_M) :=
  (mm_na M 12 480 480).bind fun M8 =>
  (mm_pR M8 (some v0) 5 0 (some (mm_n M))).bind fun M10 =>
  (mm_na M10 12 480 480).bind fun M17 =>
  (mm_pR M17 (some v0) 5 2 (some (mm_n M10))).bind fun M19 =>
  (mm_na M19 12 81 81).bind fun M25 =>
  (mm_pR M25 (some v0) 5 3 (some (mm_n M19))).bind fun M27 =>
  some M27
set_option maxRecDepth 20000 in
theorem w_X4_init_0 {g : mm_c} (C : mm_ok g cX4_init "LessonCards$Evening" none "<init>" 1 1 20 3 1041) {M : mm_M} {v0 : Nat} {res : mm_M} (hf : f_X4_init_0 M v0 = some res) (ko : (fun z => mm_q g 3 1041 none z) res) : mm_X g 0 0 M 0 [(0, mm_r (some v0))] [] := by
  unfold f_X4_init_0 at hf
  refine xr_aload_n 1 0 C dX4_init_0 rfl rfl rfl ?_
  refine xr_oinit 4 C wd_164 wd_72 wd_73 ⟨Nat.le_of_ble_eq_true rfl, Nat.le_of_ble_eq_true rfl⟩ (Nat.le_of_ble_eq_true rfl) dX4_init_1 rfl ?_
  refine xr_aload_n 5 0 C dX4_init_4 rfl rfl rfl ?_
  refine xr_sipush 8 C (v := 480) dX4_init_5 (by decide) rfl ?_
  obtain ⟨M8, h8, hf⟩ := mm_bd_e hf
  refine xr_newa 10 C (at_ := .int) (lim := 480) (by decide) (by decide) wd_88 h8 dX4_init_8 ⟨(Nat.le_of_ble_eq_true rfl), (Nat.le_of_ble_eq_true rfl)⟩ rfl ?_
  obtain ⟨M10, h10, hf⟩ := mm_bd_e hf
  refine xr_putR 13 C cf_X4_9 (fun _ => ⟨rfl, co_5_0⟩) h10 dX4_init_10 rfl ?_
  refine xr_aload_n 14 0 C dX4_init_13 rfl rfl rfl ?_
  refine xr_sipush 17 C (v := 480) dX4_init_14 (by decide) rfl ?_
  obtain ⟨M17, h17, hf⟩ := mm_bd_e hf
  refine xr_newa 19 C (at_ := .int) (lim := 480) (by decide) (by decide) wd_88 h17 dX4_init_17 ⟨(Nat.le_of_ble_eq_true rfl), (Nat.le_of_ble_eq_true rfl)⟩ rfl ?_
  obtain ⟨M19, h19, hf⟩ := mm_bd_e hf
  refine xr_putR 22 C cf_X4_15 (fun _ => ⟨rfl, co_5_2⟩) h19 dX4_init_19 rfl ?_
  refine xr_aload_n 23 0 C dX4_init_22 rfl rfl rfl ?_
  refine xr_bipush 25 C (v := 81) dX4_init_23 (by decide) rfl ?_
  obtain ⟨M25, h25, hf⟩ := mm_bd_e hf
  refine xr_newa 27 C (at_ := .int) (lim := 81) (by decide) (by decide) wd_88 h25 dX4_init_25 ⟨(Nat.le_of_ble_eq_true rfl), (Nat.le_of_ble_eq_true rfl)⟩ rfl ?_
  obtain ⟨M27, h27, hf⟩ := mm_bd_e hf
  refine xr_putR 30 C cf_X4_18 (fun _ => ⟨rfl, co_5_3⟩) h27 dX4_init_27 rfl ?_
  obtain rfl := Option.some.inj hf
  exact xr_vret C ko ⟨(Nat.le_of_ble_eq_true rfl), (Nat.le_of_ble_eq_true rfl)⟩ dX4_init_30
noncomputable def f_X4_init (M : mm_M) (v0 : Nat) : Option (mm_M) := f_X4_init_0 M v0
theorem c_X4_init (l : Launch) (G : va_G) (cy : Nat → ClassId) {M : mm_M} {v0 : Nat} {M1 : mm_M} (hf : f_X4_init M v0 = some M1) : mm_Met l yX4_init cX4_init 1 none 1 20 3 1041 G cy [mm_r (some v0)] M none M1 :=
  mm_enter (by decide) (Nat.le_of_ble_eq_true rfl) (fun p e R s m args below meth c Q C hq => xr_sub [0] (lv2 := [(0, mm_r (some v0))]) rfl (w_X4_init_0 C hf hq))
noncomputable def f_X6_handAt_30 (M : mm_M) (s0 : Option Nat) : Option (Option Nat) :=
  some s0
set_option maxRecDepth 20000 in
theorem w_X6_handAt_30 {g : mm_c} (C : mm_ok g cX6_handAt "LessonCards$Learner" (some (.object "LessonCards$Hand")) "handAt" 2 3 64 0 0) {M : mm_M} {s0 : Option Nat} {res : Option Nat} (hf : f_X6_handAt_30 M s0 = some res) (ko : (fun z => mm_q g 0 0 (some (mm_r z)) M) res) : mm_X g 0 0 M 30 [] [mm_r s0] := by
  unfold f_X6_handAt_30 at hf
  obtain rfl := Option.some.inj hf
  exact xr_aret (by first | exact Or.inl ⟨_, rfl⟩ | exact Or.inr ⟨_, rfl⟩) C ko ⟨(Nat.le_of_ble_eq_true rfl), (Nat.le_of_ble_eq_true rfl)⟩ dX6_handAt_30
noncomputable def f_X6_handAt_15 (M : mm_M) : Option (Option Nat) :=
  f_X6_handAt_30 M none
set_option maxRecDepth 20000 in
theorem w_X6_handAt_15 {g : mm_c} (C : mm_ok g cX6_handAt "LessonCards$Learner" (some (.object "LessonCards$Hand")) "handAt" 2 3 64 0 0) {M : mm_M} {res : Option Nat} (hf : f_X6_handAt_15 M = some res) (ko : (fun z => mm_q g 0 0 (some (mm_r z)) M) res) : mm_X g 0 0 M 15 [] [] := by
  unfold f_X6_handAt_15 at hf
  refine xr_null 16 C dX6_handAt_15 rfl ?_
  refine xr_goto 30 C dX6_handAt_16 (by decide) ?_
  exact w_X6_handAt_30 C hf ko
noncomputable def f_X6_handAt_19 (M : mm_M) (v0 : Option Nat) (v1 : Int32) : Option (Option Nat) :=
  (mm_fR M v0 7 0).bind fun x20 =>
  (mm_rc M x20 0).bind fun u24 =>
  (f_Jx4a65c_get_915e3 M x20 v1).bind fun x24 =>
  (mm_cc M x24 6).bind fun u27 =>
  f_X6_handAt_30 M x24
set_option maxRecDepth 20000 in
theorem w_X6_handAt_19 {g : mm_c} (C : mm_ok g cX6_handAt "LessonCards$Learner" (some (.object "LessonCards$Hand")) "handAt" 2 3 64 0 0) {M : mm_M} {v0 : Option Nat} {v1 : Int32} {res : Option Nat} (hf : f_X6_handAt_19 M v0 v1 = some res) (ko : (fun z => mm_q g 0 0 (some (mm_r z)) M) res) : mm_X g 0 0 M 19 [(0, mm_r v0), (1, mm_i v1)] [] := by
  unfold f_X6_handAt_19 at hf
  refine xr_aload_n 20 0 C dX6_handAt_19 rfl rfl rfl ?_
  obtain ⟨x20, h20, hf⟩ := mm_bd_e hf
  refine xr_getR 23 C cf_X6_12 rfl h20 dX6_handAt_20 rfl ?_
  refine xr_iload_n 24 1 C dX6_handAt_23 rfl rfl rfl ?_
  obtain ⟨u24, g24, hf⟩ := mm_bd_e hf
  obtain ⟨x24, h24, hf⟩ := mm_bd_e hf
  refine xr_callV 27 C [mm_i v1] cm_X6_35 (fun l G cy => c_Jx4a65c_get_915e3 l G cy h24) g24 rfl rfl ⟨⟨Nat.le_of_ble_eq_true rfl, Nat.le_of_ble_eq_true rfl⟩, (Nat.le_of_ble_eq_true rfl), (Nat.le_of_ble_eq_true rfl)⟩ (Nat.le_of_ble_eq_true rfl) dX6_handAt_24 rfl ?_
  obtain ⟨u27, h27, hf⟩ := mm_bd_e hf
  refine xr_cast 30 C (ci := 6) rfl (by decide) wd_259 h27 dX6_handAt_27 rfl ?_
  refine xr_sub [] (lv2 := []) rfl ?_
  exact w_X6_handAt_30 C hf ko
noncomputable def f_X6_handAt_4 (M : mm_M) (v0 : Option Nat) (v1 : Int32) : Option (Option Nat) :=
  (mm_fR M v0 7 0).bind fun x6 =>
  (mm_rc M x6 0).bind fun u9 =>
  (f_Jx4a65c_size_8abf5 M x6).bind fun x9 =>
  if v1 < x9 then f_X6_handAt_19 M v0 v1 else f_X6_handAt_15 M
set_option maxRecDepth 20000 in
theorem w_X6_handAt_4 {g : mm_c} (C : mm_ok g cX6_handAt "LessonCards$Learner" (some (.object "LessonCards$Hand")) "handAt" 2 3 64 0 0) {M : mm_M} {v0 : Option Nat} {v1 : Int32} {res : Option Nat} (hf : f_X6_handAt_4 M v0 v1 = some res) (ko : (fun z => mm_q g 0 0 (some (mm_r z)) M) res) : mm_X g 0 0 M 4 [(0, mm_r v0), (1, mm_i v1)] [] := by
  unfold f_X6_handAt_4 at hf
  refine xr_iload_n 5 1 C dX6_handAt_4 rfl rfl rfl ?_
  refine xr_aload_n 6 0 C dX6_handAt_5 rfl rfl rfl ?_
  obtain ⟨x6, h6, hf⟩ := mm_bd_e hf
  refine xr_getR 9 C cf_X6_12 rfl h6 dX6_handAt_6 rfl ?_
  obtain ⟨u9, g9, hf⟩ := mm_bd_e hf
  obtain ⟨x9, h9, hf⟩ := mm_bd_e hf
  refine xr_callV 12 C [] cm_X6_31 (fun l G cy => c_Jx4a65c_size_8abf5 l G cy h9) g9 rfl rfl ⟨⟨Nat.le_of_ble_eq_true rfl, Nat.le_of_ble_eq_true rfl⟩, (Nat.le_of_ble_eq_true rfl), (Nat.le_of_ble_eq_true rfl)⟩ (Nat.le_of_ble_eq_true rfl) dX6_handAt_9 rfl ?_
  refine xr_icmp_lt 19 15 C dX6_handAt_12 (by decide) rfl (fun hc => ?_) (fun hc => ?_)
  · replace hf := (if_pos hc).symm.trans hf
    exact w_X6_handAt_19 C hf ko
  · replace hf := (if_neg hc).symm.trans hf
    refine xr_sub [] (lv2 := []) rfl ?_
    exact w_X6_handAt_15 C hf ko
noncomputable def f_X6_handAt_0 (M : mm_M) (v0 : Option Nat) (v1 : Int32) : Option (Option Nat) :=
  if v1 < 0 then f_X6_handAt_15 M else f_X6_handAt_4 M v0 v1
set_option maxRecDepth 20000 in
theorem w_X6_handAt_0 {g : mm_c} (C : mm_ok g cX6_handAt "LessonCards$Learner" (some (.object "LessonCards$Hand")) "handAt" 2 3 64 0 0) {M : mm_M} {v0 : Option Nat} {v1 : Int32} {res : Option Nat} (hf : f_X6_handAt_0 M v0 v1 = some res) (ko : (fun z => mm_q g 0 0 (some (mm_r z)) M) res) : mm_X g 0 0 M 0 [(0, mm_r v0), (1, mm_i v1)] [] := by
  unfold f_X6_handAt_0 at hf
  refine xr_iload_n 1 1 C dX6_handAt_0 rfl rfl rfl ?_
  refine xr_if_lt 15 4 C dX6_handAt_1 (by decide) rfl (fun hc => ?_) (fun hc => ?_)
  · replace hf := (if_pos hc).symm.trans hf
    refine xr_sub [] (lv2 := []) rfl ?_
    exact w_X6_handAt_15 C hf ko
  · replace hf := (if_neg hc).symm.trans hf
    exact w_X6_handAt_4 C hf ko
noncomputable def f_X6_handAt (M : mm_M) (v0 : Option Nat) (v1 : Int32) : Option (Option Nat) := f_X6_handAt_0 M v0 v1
theorem c_X6_handAt (l : Launch) (G : va_G) (cy : Nat → ClassId) {M : mm_M} {v0 : Option Nat} {v1 : Int32} {r : Option Nat} (hf : f_X6_handAt M v0 v1 = some r) : mm_Met l yX6_handAt cX6_handAt 2 (some (.object "LessonCards$Hand")) 3 64 0 0 G cy [mm_r v0, mm_i v1] M (some (mm_r r)) M :=
  mm_enter (by decide) (Nat.le_of_ble_eq_true rfl) (fun p e R s m args below meth c Q C hq => xr_sub [0, 1] (lv2 := [(0, mm_r v0), (1, mm_i v1)]) rfl (w_X6_handAt_0 C hf hq))
noncomputable def f_X5_memoryAt_23 (M : mm_M) (s0 : Option Nat) : Option (Option Nat) :=
  some s0
set_option maxRecDepth 20000 in
theorem w_X5_memoryAt_23 {g : mm_c} (C : mm_ok g cX5_memoryAt "LessonCards$Hand" (some (.object "LessonCards$Memory")) "memoryAt" 2 0 0 0 0) {M : mm_M} {s0 : Option Nat} {res : Option Nat} (hf : f_X5_memoryAt_23 M s0 = some res) (ko : (fun z => mm_q g 0 0 (some (mm_r z)) M) res) : mm_X g 0 0 M 23 [] [mm_r s0] := by
  unfold f_X5_memoryAt_23 at hf
  obtain rfl := Option.some.inj hf
  exact xr_aret (by first | exact Or.inl ⟨_, rfl⟩ | exact Or.inr ⟨_, rfl⟩) C ko ⟨(Nat.le_of_ble_eq_true rfl), (Nat.le_of_ble_eq_true rfl)⟩ dX5_memoryAt_23
noncomputable def f_X5_memoryAt_13 (M : mm_M) : Option (Option Nat) :=
  f_X5_memoryAt_23 M none
set_option maxRecDepth 20000 in
theorem w_X5_memoryAt_13 {g : mm_c} (C : mm_ok g cX5_memoryAt "LessonCards$Hand" (some (.object "LessonCards$Memory")) "memoryAt" 2 0 0 0 0) {M : mm_M} {res : Option Nat} (hf : f_X5_memoryAt_13 M = some res) (ko : (fun z => mm_q g 0 0 (some (mm_r z)) M) res) : mm_X g 0 0 M 13 [] [] := by
  unfold f_X5_memoryAt_13 at hf
  refine xr_null 14 C dX5_memoryAt_13 rfl ?_
  refine xr_goto 23 C dX5_memoryAt_14 (by decide) ?_
  exact w_X5_memoryAt_23 C hf ko
noncomputable def f_X5_memoryAt_17 (M : mm_M) (v0 : Option Nat) (v1 : Int32) : Option (Option Nat) :=
  (mm_fR M v0 6 0).bind fun x18 =>
  (mm_aR M x18 16 v1).bind fun x22 =>
  f_X5_memoryAt_23 M x22
set_option maxRecDepth 20000 in
theorem w_X5_memoryAt_17 {g : mm_c} (C : mm_ok g cX5_memoryAt "LessonCards$Hand" (some (.object "LessonCards$Memory")) "memoryAt" 2 0 0 0 0) {M : mm_M} {v0 : Option Nat} {v1 : Int32} {res : Option Nat} (hf : f_X5_memoryAt_17 M v0 v1 = some res) (ko : (fun z => mm_q g 0 0 (some (mm_r z)) M) res) : mm_X g 0 0 M 17 [(0, mm_r v0), (1, mm_i v1)] [] := by
  unfold f_X5_memoryAt_17 at hf
  refine xr_aload_n 18 0 C dX5_memoryAt_17 rfl rfl rfl ?_
  obtain ⟨x18, h18, hf⟩ := mm_bd_e hf
  refine xr_getR 21 C cf_X5_11 rfl h18 dX5_memoryAt_18 rfl ?_
  refine xr_iload_n 22 1 C dX5_memoryAt_21 rfl rfl rfl ?_
  obtain ⟨x22, h22, hf⟩ := mm_bd_e hf
  refine xr_aldR 23 C 16 (by decide) h22 dX5_memoryAt_22 rfl ?_
  refine xr_sub [] (lv2 := []) rfl ?_
  exact w_X5_memoryAt_23 C hf ko
noncomputable def f_X5_memoryAt_4 (M : mm_M) (v0 : Option Nat) (v1 : Int32) : Option (Option Nat) :=
  (mm_fR M v0 6 0).bind fun x6 =>
  (mm_ln M x6).bind fun x9 =>
  if v1 < x9 then f_X5_memoryAt_17 M v0 v1 else f_X5_memoryAt_13 M
set_option maxRecDepth 20000 in
theorem w_X5_memoryAt_4 {g : mm_c} (C : mm_ok g cX5_memoryAt "LessonCards$Hand" (some (.object "LessonCards$Memory")) "memoryAt" 2 0 0 0 0) {M : mm_M} {v0 : Option Nat} {v1 : Int32} {res : Option Nat} (hf : f_X5_memoryAt_4 M v0 v1 = some res) (ko : (fun z => mm_q g 0 0 (some (mm_r z)) M) res) : mm_X g 0 0 M 4 [(0, mm_r v0), (1, mm_i v1)] [] := by
  unfold f_X5_memoryAt_4 at hf
  refine xr_iload_n 5 1 C dX5_memoryAt_4 rfl rfl rfl ?_
  refine xr_aload_n 6 0 C dX5_memoryAt_5 rfl rfl rfl ?_
  obtain ⟨x6, h6, hf⟩ := mm_bd_e hf
  refine xr_getR 9 C cf_X5_11 rfl h6 dX5_memoryAt_6 rfl ?_
  obtain ⟨x9, h9, hf⟩ := mm_bd_e hf
  refine xr_alen 10 C h9 dX5_memoryAt_9 rfl ?_
  refine xr_icmp_lt 17 13 C dX5_memoryAt_10 (by decide) rfl (fun hc => ?_) (fun hc => ?_)
  · replace hf := (if_pos hc).symm.trans hf
    exact w_X5_memoryAt_17 C hf ko
  · replace hf := (if_neg hc).symm.trans hf
    refine xr_sub [] (lv2 := []) rfl ?_
    exact w_X5_memoryAt_13 C hf ko
noncomputable def f_X5_memoryAt_0 (M : mm_M) (v0 : Option Nat) (v1 : Int32) : Option (Option Nat) :=
  if v1 < 0 then f_X5_memoryAt_13 M else f_X5_memoryAt_4 M v0 v1
set_option maxRecDepth 20000 in
theorem w_X5_memoryAt_0 {g : mm_c} (C : mm_ok g cX5_memoryAt "LessonCards$Hand" (some (.object "LessonCards$Memory")) "memoryAt" 2 0 0 0 0) {M : mm_M} {v0 : Option Nat} {v1 : Int32} {res : Option Nat} (hf : f_X5_memoryAt_0 M v0 v1 = some res) (ko : (fun z => mm_q g 0 0 (some (mm_r z)) M) res) : mm_X g 0 0 M 0 [(0, mm_r v0), (1, mm_i v1)] [] := by
  unfold f_X5_memoryAt_0 at hf
  refine xr_iload_n 1 1 C dX5_memoryAt_0 rfl rfl rfl ?_
  refine xr_if_lt 13 4 C dX5_memoryAt_1 (by decide) rfl (fun hc => ?_) (fun hc => ?_)
  · replace hf := (if_pos hc).symm.trans hf
    refine xr_sub [] (lv2 := []) rfl ?_
    exact w_X5_memoryAt_13 C hf ko
  · replace hf := (if_neg hc).symm.trans hf
    exact w_X5_memoryAt_4 C hf ko
noncomputable def f_X5_memoryAt (M : mm_M) (v0 : Option Nat) (v1 : Int32) : Option (Option Nat) := f_X5_memoryAt_0 M v0 v1
theorem c_X5_memoryAt (l : Launch) (G : va_G) (cy : Nat → ClassId) {M : mm_M} {v0 : Option Nat} {v1 : Int32} {r : Option Nat} (hf : f_X5_memoryAt M v0 v1 = some r) : mm_Met l yX5_memoryAt cX5_memoryAt 2 (some (.object "LessonCards$Memory")) 0 0 0 0 G cy [mm_r v0, mm_i v1] M (some (mm_r r)) M :=
  mm_enter (by decide) (Nat.le_of_ble_eq_true rfl) (fun p e R s m args below meth c Q C hq => xr_sub [0, 1] (lv2 := [(0, mm_r v0), (1, mm_i v1)]) rfl (w_X5_memoryAt_0 C hf hq))
noncomputable def f_X6_memoryAt_31 (M : mm_M) (s0 : Option Nat) : Option (Option Nat) :=
  some s0
set_option maxRecDepth 20000 in
theorem w_X6_memoryAt_31 {g : mm_c} (C : mm_ok g cX6_memoryAt "LessonCards$Learner" (some (.object "LessonCards$Memory")) "memoryAt" 3 4 85 0 0) {M : mm_M} {s0 : Option Nat} {res : Option Nat} (hf : f_X6_memoryAt_31 M s0 = some res) (ko : (fun z => mm_q g 0 0 (some (mm_r z)) M) res) : mm_X g 0 0 M 31 [] [mm_r s0] := by
  unfold f_X6_memoryAt_31 at hf
  obtain rfl := Option.some.inj hf
  exact xr_aret (by first | exact Or.inl ⟨_, rfl⟩ | exact Or.inr ⟨_, rfl⟩) C ko ⟨(Nat.le_of_ble_eq_true rfl), (Nat.le_of_ble_eq_true rfl)⟩ dX6_memoryAt_31
noncomputable def f_X6_memoryAt_20 (M : mm_M) : Option (Option Nat) :=
  f_X6_memoryAt_31 M none
set_option maxRecDepth 20000 in
theorem w_X6_memoryAt_20 {g : mm_c} (C : mm_ok g cX6_memoryAt "LessonCards$Learner" (some (.object "LessonCards$Memory")) "memoryAt" 3 4 85 0 0) {M : mm_M} {res : Option Nat} (hf : f_X6_memoryAt_20 M = some res) (ko : (fun z => mm_q g 0 0 (some (mm_r z)) M) res) : mm_X g 0 0 M 20 [] [] := by
  unfold f_X6_memoryAt_20 at hf
  refine xr_null 21 C dX6_memoryAt_20 rfl ?_
  refine xr_goto 31 C dX6_memoryAt_21 (by decide) ?_
  exact w_X6_memoryAt_31 C hf ko
noncomputable def f_X6_memoryAt_24 (M : mm_M) (v1 : Int32) (v2 : Option Nat) : Option (Option Nat) :=
  (mm_rc M v2 6).bind fun u28 =>
  (f_X5_memoryAt M v2 (v1 - v1 / 4 * 4)).bind fun x28 =>
  f_X6_memoryAt_31 M x28
set_option maxRecDepth 20000 in
theorem w_X6_memoryAt_24 {g : mm_c} (C : mm_ok g cX6_memoryAt "LessonCards$Learner" (some (.object "LessonCards$Memory")) "memoryAt" 3 4 85 0 0) {M : mm_M} {v1 : Int32} {v2 : Option Nat} {res : Option Nat} (hf : f_X6_memoryAt_24 M v1 v2 = some res) (ko : (fun z => mm_q g 0 0 (some (mm_r z)) M) res) : mm_X g 0 0 M 24 [(1, mm_i v1), (2, mm_r v2)] [] := by
  unfold f_X6_memoryAt_24 at hf
  refine xr_aload_n 25 1 C dX6_memoryAt_24 rfl rfl rfl ?_
  refine xr_iload_n 26 0 C dX6_memoryAt_25 rfl rfl rfl ?_
  refine xr_iconst 27 C (v := 4) dX6_memoryAt_26 (by decide) rfl ?_
  refine xr_irem 28 C dX6_memoryAt_27 (by decide) rfl ?_
  obtain ⟨u28, g28, hf⟩ := mm_bd_e hf
  obtain ⟨x28, h28, hf⟩ := mm_bd_e hf
  refine xr_callV 31 C [mm_i (v1 - v1 / 4 * 4)] cm_X6_43 (fun l G cy => c_X5_memoryAt l G cy h28) g28 rfl rfl ⟨⟨Nat.le_of_ble_eq_true rfl, Nat.le_of_ble_eq_true rfl⟩, (Nat.le_of_ble_eq_true rfl), (Nat.le_of_ble_eq_true rfl)⟩ (Nat.le_of_ble_eq_true rfl) dX6_memoryAt_28 rfl ?_
  refine xr_sub [] (lv2 := []) rfl ?_
  exact w_X6_memoryAt_31 C hf ko
noncomputable def f_X6_memoryAt_15 (M : mm_M) (v1 : Int32) (s0 : Option Nat) : Option (Option Nat) :=
  if s0 = none then f_X6_memoryAt_20 M else f_X6_memoryAt_24 M v1 s0
set_option maxRecDepth 20000 in
theorem w_X6_memoryAt_15 {g : mm_c} (C : mm_ok g cX6_memoryAt "LessonCards$Learner" (some (.object "LessonCards$Memory")) "memoryAt" 3 4 85 0 0) {M : mm_M} {v1 : Int32} {s0 : Option Nat} {res : Option Nat} (hf : f_X6_memoryAt_15 M v1 s0 = some res) (ko : (fun z => mm_q g 0 0 (some (mm_r z)) M) res) : mm_X g 0 0 M 15 [(1, mm_i v1)] [mm_r s0] := by
  unfold f_X6_memoryAt_15 at hf
  refine xr_astore_n 16 C dX6_memoryAt_15 rfl (by decide) rfl [(2, mm_r s0), (1, mm_i v1)] rfl ?_
  refine xr_aload_n 17 0 C dX6_memoryAt_16 rfl rfl rfl ?_
  refine xr_ifnonnull 24 20 C dX6_memoryAt_17 (by decide) rfl (fun hc => ?_) (fun hc => ?_)
  · replace hf := (if_neg hc).symm.trans hf
    refine xr_sub [1, 0] (lv2 := [(1, mm_i v1), (2, mm_r s0)]) rfl ?_
    exact w_X6_memoryAt_24 C hf ko
  · replace hf := (if_pos hc).symm.trans hf
    refine xr_sub [] (lv2 := []) rfl ?_
    exact w_X6_memoryAt_20 C hf ko
noncomputable def f_X6_memoryAt_4 (M : mm_M) (v1 : Int32) : Option (Option Nat) :=
  f_X6_memoryAt_15 M v1 none
set_option maxRecDepth 20000 in
theorem w_X6_memoryAt_4 {g : mm_c} (C : mm_ok g cX6_memoryAt "LessonCards$Learner" (some (.object "LessonCards$Memory")) "memoryAt" 3 4 85 0 0) {M : mm_M} {v1 : Int32} {res : Option Nat} (hf : f_X6_memoryAt_4 M v1 = some res) (ko : (fun z => mm_q g 0 0 (some (mm_r z)) M) res) : mm_X g 0 0 M 4 [(1, mm_i v1)] [] := by
  unfold f_X6_memoryAt_4 at hf
  refine xr_null 5 C dX6_memoryAt_4 rfl ?_
  refine xr_goto 15 C dX6_memoryAt_5 (by decide) ?_
  exact w_X6_memoryAt_15 C hf ko
noncomputable def f_X6_memoryAt_8 (M : mm_M) (v0 : Option Nat) (v1 : Int32) : Option (Option Nat) :=
  (mm_rc M v0 7).bind fun u12 =>
  (f_X6_handAt M v0 (v1 / 4)).bind fun x12 =>
  f_X6_memoryAt_15 M v1 x12
set_option maxRecDepth 20000 in
theorem w_X6_memoryAt_8 {g : mm_c} (C : mm_ok g cX6_memoryAt "LessonCards$Learner" (some (.object "LessonCards$Memory")) "memoryAt" 3 4 85 0 0) {M : mm_M} {v0 : Option Nat} {v1 : Int32} {res : Option Nat} (hf : f_X6_memoryAt_8 M v0 v1 = some res) (ko : (fun z => mm_q g 0 0 (some (mm_r z)) M) res) : mm_X g 0 0 M 8 [(0, mm_r v0), (1, mm_i v1)] [] := by
  unfold f_X6_memoryAt_8 at hf
  refine xr_aload_n 9 0 C dX6_memoryAt_8 rfl rfl rfl ?_
  refine xr_iload_n 10 1 C dX6_memoryAt_9 rfl rfl rfl ?_
  refine xr_iconst 11 C (v := 4) dX6_memoryAt_10 (by decide) rfl ?_
  refine xr_idiv 12 C dX6_memoryAt_11 (by decide) rfl ?_
  obtain ⟨u12, g12, hf⟩ := mm_bd_e hf
  obtain ⟨x12, h12, hf⟩ := mm_bd_e hf
  refine xr_callV 15 C [mm_i (v1 / 4)] cm_X6_39 (fun l G cy => c_X6_handAt l G cy h12) g12 rfl rfl ⟨⟨Nat.le_of_ble_eq_true rfl, Nat.le_of_ble_eq_true rfl⟩, (Nat.le_of_ble_eq_true rfl), (Nat.le_of_ble_eq_true rfl)⟩ (Nat.le_of_ble_eq_true rfl) dX6_memoryAt_12 rfl ?_
  refine xr_sub [1] (lv2 := [(1, mm_i v1)]) rfl ?_
  exact w_X6_memoryAt_15 C hf ko
noncomputable def f_X6_memoryAt_0 (M : mm_M) (v0 : Option Nat) (v1 : Int32) : Option (Option Nat) :=
  if 0 ≤ v1 then f_X6_memoryAt_8 M v0 v1 else f_X6_memoryAt_4 M v1
set_option maxRecDepth 20000 in
theorem w_X6_memoryAt_0 {g : mm_c} (C : mm_ok g cX6_memoryAt "LessonCards$Learner" (some (.object "LessonCards$Memory")) "memoryAt" 3 4 85 0 0) {M : mm_M} {v0 : Option Nat} {v1 : Int32} {res : Option Nat} (hf : f_X6_memoryAt_0 M v0 v1 = some res) (ko : (fun z => mm_q g 0 0 (some (mm_r z)) M) res) : mm_X g 0 0 M 0 [(0, mm_r v0), (1, mm_i v1)] [] := by
  unfold f_X6_memoryAt_0 at hf
  refine xr_iload_n 1 1 C dX6_memoryAt_0 rfl rfl rfl ?_
  refine xr_if_ge 8 4 C dX6_memoryAt_1 (by decide) rfl (fun hc => ?_) (fun hc => ?_)
  · replace hf := (if_pos hc).symm.trans hf
    exact w_X6_memoryAt_8 C hf ko
  · replace hf := (if_neg hc).symm.trans hf
    refine xr_sub [1] (lv2 := [(1, mm_i v1)]) rfl ?_
    exact w_X6_memoryAt_4 C hf ko
noncomputable def f_X6_memoryAt (M : mm_M) (v0 : Option Nat) (v1 : Int32) : Option (Option Nat) := f_X6_memoryAt_0 M v0 v1
theorem c_X6_memoryAt (l : Launch) (G : va_G) (cy : Nat → ClassId) {M : mm_M} {v0 : Option Nat} {v1 : Int32} {r : Option Nat} (hf : f_X6_memoryAt M v0 v1 = some r) : mm_Met l yX6_memoryAt cX6_memoryAt 3 (some (.object "LessonCards$Memory")) 4 85 0 0 G cy [mm_r v0, mm_i v1] M (some (mm_r r)) M :=
  mm_enter (by decide) (Nat.le_of_ble_eq_true rfl) (fun p e R s m args below meth c Q C hq => xr_sub [0, 1] (lv2 := [(0, mm_r v0), (1, mm_i v1)]) rfl (w_X6_memoryAt_0 C hf hq))
noncomputable def f_X8_isToCome_21 (M : mm_M) (s0 : Int32) : Option (Int32) :=
  mm_gd (s0 = 0 ∨ s0 = 1) <|
  some s0
set_option maxRecDepth 20000 in
theorem w_X8_isToCome_21 {g : mm_c} (C : mm_ok g cX8_isToCome "LessonCards$Memory" (some .boolean) "isToCome" 1 0 0 0 0) {M : mm_M} {s0 : Int32} {res : Int32} (hf : f_X8_isToCome_21 M s0 = some res) (ko : (fun z => mm_q g 0 0 (some (mm_i z)) M) res) : mm_X g 0 0 M 21 [] [mm_i s0] := by
  unfold f_X8_isToCome_21 at hf
  obtain ⟨hz, hf⟩ := mm_gd_e hf
  obtain rfl := Option.some.inj hf
  exact xr_zret C hz ko ⟨(Nat.le_of_ble_eq_true rfl), (Nat.le_of_ble_eq_true rfl)⟩ dX8_isToCome_21
noncomputable def f_X8_isToCome_16 (M : mm_M) : Option (Int32) :=
  f_X8_isToCome_21 M 1
set_option maxRecDepth 20000 in
theorem w_X8_isToCome_16 {g : mm_c} (C : mm_ok g cX8_isToCome "LessonCards$Memory" (some .boolean) "isToCome" 1 0 0 0 0) {M : mm_M} {res : Int32} (hf : f_X8_isToCome_16 M = some res) (ko : (fun z => mm_q g 0 0 (some (mm_i z)) M) res) : mm_X g 0 0 M 16 [] [] := by
  unfold f_X8_isToCome_16 at hf
  refine xr_iconst 17 C (v := 1) dX8_isToCome_16 (by decide) rfl ?_
  refine xr_goto 21 C dX8_isToCome_17 (by decide) ?_
  exact w_X8_isToCome_21 C hf ko
noncomputable def f_X8_isToCome_20 (M : mm_M) : Option (Int32) :=
  f_X8_isToCome_21 M 0
set_option maxRecDepth 20000 in
theorem w_X8_isToCome_20 {g : mm_c} (C : mm_ok g cX8_isToCome "LessonCards$Memory" (some .boolean) "isToCome" 1 0 0 0 0) {M : mm_M} {res : Int32} (hf : f_X8_isToCome_20 M = some res) (ko : (fun z => mm_q g 0 0 (some (mm_i z)) M) res) : mm_X g 0 0 M 20 [] [] := by
  unfold f_X8_isToCome_20 at hf
  refine xr_iconst 21 C (v := 0) dX8_isToCome_20 (by decide) rfl ?_
  exact w_X8_isToCome_21 C hf ko
noncomputable def f_X8_isToCome_7 (M : mm_M) (v0 : Option Nat) : Option (Int32) :=
  (mm_fI M v0 9 4).bind fun x8 =>
  if 8 ≤ x8 then f_X8_isToCome_20 M else f_X8_isToCome_16 M
set_option maxRecDepth 20000 in
theorem w_X8_isToCome_7 {g : mm_c} (C : mm_ok g cX8_isToCome "LessonCards$Memory" (some .boolean) "isToCome" 1 0 0 0 0) {M : mm_M} {v0 : Option Nat} {res : Int32} (hf : f_X8_isToCome_7 M v0 = some res) (ko : (fun z => mm_q g 0 0 (some (mm_i z)) M) res) : mm_X g 0 0 M 7 [(0, mm_r v0)] [] := by
  unfold f_X8_isToCome_7 at hf
  refine xr_aload_n 8 0 C dX8_isToCome_7 rfl rfl rfl ?_
  obtain ⟨x8, h8, hf⟩ := mm_bd_e hf
  refine xr_getI 11 C cf_X8_29 rfl h8 dX8_isToCome_8 rfl ?_
  refine xr_bipush 13 C (v := 8) dX8_isToCome_11 (by decide) rfl ?_
  refine xr_icmp_ge 20 16 C dX8_isToCome_13 (by decide) rfl (fun hc => ?_) (fun hc => ?_)
  · replace hf := (if_pos hc).symm.trans hf
    refine xr_sub [] (lv2 := []) rfl ?_
    exact w_X8_isToCome_20 C hf ko
  · replace hf := (if_neg hc).symm.trans hf
    refine xr_sub [] (lv2 := []) rfl ?_
    exact w_X8_isToCome_16 C hf ko
noncomputable def f_X8_isToCome_0 (M : mm_M) (v0 : Option Nat) : Option (Int32) :=
  (mm_fI M v0 9 0).bind fun x1 =>
  if x1 ≤ 0 then f_X8_isToCome_20 M else f_X8_isToCome_7 M v0
set_option maxRecDepth 20000 in
theorem w_X8_isToCome_0 {g : mm_c} (C : mm_ok g cX8_isToCome "LessonCards$Memory" (some .boolean) "isToCome" 1 0 0 0 0) {M : mm_M} {v0 : Option Nat} {res : Int32} (hf : f_X8_isToCome_0 M v0 = some res) (ko : (fun z => mm_q g 0 0 (some (mm_i z)) M) res) : mm_X g 0 0 M 0 [(0, mm_r v0)] [] := by
  unfold f_X8_isToCome_0 at hf
  refine xr_aload_n 1 0 C dX8_isToCome_0 rfl rfl rfl ?_
  obtain ⟨x1, h1, hf⟩ := mm_bd_e hf
  refine xr_getI 4 C cf_X8_23 rfl h1 dX8_isToCome_1 rfl ?_
  refine xr_if_le 20 7 C dX8_isToCome_4 (by decide) rfl (fun hc => ?_) (fun hc => ?_)
  · replace hf := (if_pos hc).symm.trans hf
    refine xr_sub [] (lv2 := []) rfl ?_
    exact w_X8_isToCome_20 C hf ko
  · replace hf := (if_neg hc).symm.trans hf
    exact w_X8_isToCome_7 C hf ko
noncomputable def f_X8_isToCome (M : mm_M) (v0 : Option Nat) : Option (Int32) := f_X8_isToCome_0 M v0
theorem c_X8_isToCome (l : Launch) (G : va_G) (cy : Nat → ClassId) {M : mm_M} {v0 : Option Nat} {r : Int32} (hf : f_X8_isToCome M v0 = some r) : mm_Met l yX8_isToCome cX8_isToCome 1 (some .boolean) 0 0 0 0 G cy [mm_r v0] M (some (mm_i r)) M :=
  mm_enter (by decide) (Nat.le_of_ble_eq_true rfl) (fun p e R s m args below meth c Q C hq => xr_sub [0] (lv2 := [(0, mm_r v0)]) rfl (w_X8_isToCome_0 C hf hq))
noncomputable def f_X8_firstDue_0 (M : mm_M) (v0 : Option Nat) (v1 : Int32) (v2 : Option Nat) : Option (Int32) :=
  (mm_fI M v2 2 1).bind fun x1 =>
  (mm_fI M v0 9 0).bind fun x5 =>
  (mm_fI M v0 9 3).bind fun x20 =>
  some (if v1 < (x20 + (((x1 * x5) + 15999) / 16000)) then (x20 + (((x1 * x5) + 15999) / 16000)) else v1)
set_option maxRecDepth 20000 in
theorem w_X8_firstDue_0 {g : mm_c} (C : mm_ok g cX8_firstDue "LessonCards$Memory" (some .int) "firstDue" 4 1 21 0 0) {M : mm_M} {v0 : Option Nat} {v1 : Int32} {v2 : Option Nat} {res : Int32} (hf : f_X8_firstDue_0 M v0 v1 v2 = some res) (ko : (fun z => mm_q g 0 0 (some (mm_i z)) M) res) : mm_X g 0 0 M 0 [(0, mm_r v0), (1, mm_i v1), (2, mm_r v2)] [] := by
  unfold f_X8_firstDue_0 at hf
  refine xr_aload_n 1 2 C dX8_firstDue_0 rfl rfl rfl ?_
  obtain ⟨x1, h1, hf⟩ := mm_bd_e hf
  refine xr_getI 4 C cf_X8_63 rfl h1 dX8_firstDue_1 rfl ?_
  refine xr_aload_n 5 0 C dX8_firstDue_4 rfl rfl rfl ?_
  obtain ⟨x5, h5, hf⟩ := mm_bd_e hf
  refine xr_getI 8 C cf_X8_23 rfl h5 dX8_firstDue_5 rfl ?_
  refine xr_imul 9 C dX8_firstDue_8 rfl ?_
  refine xr_sipush 12 C (v := 15999) dX8_firstDue_9 (by decide) rfl ?_
  refine xr_iadd 13 C dX8_firstDue_12 rfl ?_
  refine xr_sipush 16 C (v := 16000) dX8_firstDue_13 (by decide) rfl ?_
  refine xr_idiv 17 C dX8_firstDue_16 (by decide) rfl ?_
  refine xr_istore_n 18 C dX8_firstDue_17 rfl (by decide) rfl [(3, mm_i (((x1 * x5) + 15999) / 16000)), (0, mm_r v0), (1, mm_i v1), (2, mm_r v2)] rfl ?_
  refine xr_iload_n 19 2 C dX8_firstDue_18 rfl rfl rfl ?_
  refine xr_aload_n 20 1 C dX8_firstDue_19 rfl rfl rfl ?_
  obtain ⟨x20, h20, hf⟩ := mm_bd_e hf
  refine xr_getI 23 C cf_X8_15 rfl h20 dX8_firstDue_20 rfl ?_
  refine xr_iload_n 24 0 C dX8_firstDue_23 rfl rfl rfl ?_
  refine xr_iadd 25 C dX8_firstDue_24 rfl ?_
  refine xr_mmax 28 C wd_650 wd_321 wd_59 wd_322 ⟨Nat.le_of_ble_eq_true rfl, Nat.le_of_ble_eq_true rfl, (Nat.le_of_ble_eq_true rfl), (Nat.le_of_ble_eq_true rfl)⟩ (Nat.le_of_ble_eq_true rfl) dX8_firstDue_25 rfl ?_
  obtain rfl := Option.some.inj hf
  exact xr_iret C ko ⟨(Nat.le_of_ble_eq_true rfl), (Nat.le_of_ble_eq_true rfl)⟩ dX8_firstDue_28
noncomputable def f_X8_firstDue (M : mm_M) (v0 : Option Nat) (v1 : Int32) (v2 : Option Nat) : Option (Int32) := f_X8_firstDue_0 M v0 v1 v2
theorem c_X8_firstDue (l : Launch) (G : va_G) (cy : Nat → ClassId) {M : mm_M} {v0 : Option Nat} {v1 : Int32} {v2 : Option Nat} {r : Int32} (hf : f_X8_firstDue M v0 v1 v2 = some r) : mm_Met l yX8_firstDue cX8_firstDue 4 (some .int) 1 21 0 0 G cy [mm_r v0, mm_i v1, mm_r v2] M (some (mm_i r)) M :=
  mm_enter (by decide) (Nat.le_of_ble_eq_true rfl) (fun p e R s m args below meth c Q C hq => xr_sub [0, 1, 2] (lv2 := [(0, mm_r v0), (1, mm_i v1), (2, mm_r v2)]) rfl (w_X8_firstDue_0 C hf hq))
def h_X4_addSide_33 (g : mm_c) (v0 : Option Nat) (v3 : Int32) : (mm_M × Int32) → Prop := fun x => mm_X g 0 0 x.1 33 [(0, mm_r v0), (3, mm_i v3), (4, mm_i x.2)] []
noncomputable def f_X4_addSide_18 (M : mm_M) : Option (mm_M) :=
  some M
set_option maxRecDepth 20000 in
theorem w_X4_addSide_18 {g : mm_c} (C : mm_ok g cX4_addSide "LessonCards$Evening" none "addSide" 5 0 0 0 0) {M : mm_M} {res : mm_M} (hf : f_X4_addSide_18 M = some res) (ko : (fun z => mm_q g 0 0 none z) res) : mm_X g 0 0 M 18 [] [] := by
  unfold f_X4_addSide_18 at hf
  obtain rfl := Option.some.inj hf
  exact xr_vret C ko ⟨(Nat.le_of_ble_eq_true rfl), (Nat.le_of_ble_eq_true rfl)⟩ dX4_addSide_18
noncomputable def f_X4_addSide_61 (M : mm_M) (v0 : Option Nat) (v3 : Int32) (v4 : Int32) : Option ((mm_M × Int32) ⊕ (mm_M)) :=
  (mm_fR M v0 5 0).bind fun x62 =>
  (mm_fR M v0 5 0).bind fun x68 =>
  (mm_aI M x68 12 (v4 - 1)).bind fun x75 =>
  (mm_tI M x62 v4 x75).bind fun M76 =>
  some (.inl (M76, (v4 + (-1))))
set_option maxRecDepth 20000 in
theorem w_X4_addSide_61 {g : mm_c} (C : mm_ok g cX4_addSide "LessonCards$Evening" none "addSide" 5 0 0 0 0) {M : mm_M} {v0 : Option Nat} {v3 : Int32} {v4 : Int32} {res : (mm_M × Int32) ⊕ (mm_M)} (hf : f_X4_addSide_61 M v0 v3 v4 = some res) (ko : (mm_o (h_X4_addSide_33 g v0 v3) (fun z => mm_q g 0 0 none z)) res) : mm_X g 0 0 M 61 [(0, mm_r v0), (3, mm_i v3), (4, mm_i v4)] [] := by
  unfold f_X4_addSide_61 at hf
  refine xr_aload_n 62 0 C dX4_addSide_61 rfl rfl rfl ?_
  obtain ⟨x62, h62, hf⟩ := mm_bd_e hf
  refine xr_getR 65 C cf_X4_9 rfl h62 dX4_addSide_62 rfl ?_
  refine xr_iload 67 2 C dX4_addSide_65 rfl rfl ?_
  refine xr_aload_n 68 0 C dX4_addSide_67 rfl rfl rfl ?_
  obtain ⟨x68, h68, hf⟩ := mm_bd_e hf
  refine xr_getR 71 C cf_X4_9 rfl h68 dX4_addSide_68 rfl ?_
  refine xr_iload 73 2 C dX4_addSide_71 rfl rfl ?_
  refine xr_iconst 74 C (v := 1) dX4_addSide_73 (by decide) rfl ?_
  refine xr_isub 75 C dX4_addSide_74 rfl ?_
  obtain ⟨x75, h75, hf⟩ := mm_bd_e hf
  refine xr_aldI 76 C h75 dX4_addSide_75 rfl ?_
  obtain ⟨M76, h76, hf⟩ := mm_bd_e hf
  refine xr_astI 77 C h76 dX4_addSide_76 rfl ?_
  refine xr_iinc 80 2 C dX4_addSide_77 rfl (by decide) (v := (-1)) (by decide) rfl [(4, mm_i (v4 + (-1))), (0, mm_r v0), (3, mm_i v3)] rfl ?_
  refine xr_goto 33 C dX4_addSide_80 (by decide) ?_
  refine xr_sub [1, 2, 0] (lv2 := [(0, mm_r v0), (3, mm_i v3), (4, mm_i (v4 + (-1)))]) rfl ?_
  obtain rfl := Option.some.inj hf
  exact ko
noncomputable def f_X4_addSide_106 (M : mm_M) (v0 : Option Nat) : Option (mm_M) :=
  (mm_fI M v0 5 1).bind fun x108 =>
  (mm_pI M v0 5 1 (x108 + 1)).bind fun M113 =>
  some M113
set_option maxRecDepth 20000 in
theorem w_X4_addSide_106 {g : mm_c} (C : mm_ok g cX4_addSide "LessonCards$Evening" none "addSide" 5 0 0 0 0) {M : mm_M} {v0 : Option Nat} {res : mm_M} (hf : f_X4_addSide_106 M v0 = some res) (ko : (fun z => mm_q g 0 0 none z) res) : mm_X g 0 0 M 106 [(0, mm_r v0)] [] := by
  unfold f_X4_addSide_106 at hf
  refine xr_aload_n 107 0 C dX4_addSide_106 rfl rfl rfl ?_
  refine xr_dup 108 C dX4_addSide_107 rfl rfl ?_
  obtain ⟨x108, h108, hf⟩ := mm_bd_e hf
  refine xr_getI 111 C cf_X4_21 rfl h108 dX4_addSide_108 rfl ?_
  refine xr_iconst 112 C (v := 1) dX4_addSide_111 (by decide) rfl ?_
  refine xr_iadd 113 C dX4_addSide_112 rfl ?_
  obtain ⟨M113, h113, hf⟩ := mm_bd_e hf
  refine xr_putI 116 C cf_X4_21 (fun h => by cases h) h113 dX4_addSide_113 rfl ?_
  obtain rfl := Option.some.inj hf
  exact xr_vret C ko ⟨(Nat.le_of_ble_eq_true rfl), (Nat.le_of_ble_eq_true rfl)⟩ dX4_addSide_116
noncomputable def f_X4_addSide_98 (M : mm_M) (v0 : Option Nat) (v3 : Int32) (v4 : Int32) : Option (mm_M) :=
  (mm_fR M v0 5 0).bind fun x99 =>
  (mm_tI M x99 v4 v3).bind fun M105 =>
  f_X4_addSide_106 M105 v0
set_option maxRecDepth 20000 in
theorem w_X4_addSide_98 {g : mm_c} (C : mm_ok g cX4_addSide "LessonCards$Evening" none "addSide" 5 0 0 0 0) {M : mm_M} {v0 : Option Nat} {v3 : Int32} {v4 : Int32} {res : mm_M} (hf : f_X4_addSide_98 M v0 v3 v4 = some res) (ko : (fun z => mm_q g 0 0 none z) res) : mm_X g 0 0 M 98 [(0, mm_r v0), (3, mm_i v3), (4, mm_i v4)] [] := by
  unfold f_X4_addSide_98 at hf
  refine xr_aload_n 99 0 C dX4_addSide_98 rfl rfl rfl ?_
  obtain ⟨x99, h99, hf⟩ := mm_bd_e hf
  refine xr_getR 102 C cf_X4_9 rfl h99 dX4_addSide_99 rfl ?_
  refine xr_iload 104 2 C dX4_addSide_102 rfl rfl ?_
  refine xr_iload_n 105 1 C dX4_addSide_104 rfl rfl rfl ?_
  obtain ⟨M105, h105, hf⟩ := mm_bd_e hf
  refine xr_astI 106 C h105 dX4_addSide_105 rfl ?_
  refine xr_sub [0] (lv2 := [(0, mm_r v0)]) rfl ?_
  exact w_X4_addSide_106 C hf ko
noncomputable def f_X4_addSide_88 (M : mm_M) (v0 : Option Nat) (v3 : Int32) (v4 : Int32) : Option (mm_M) :=
  (mm_fR M v0 5 0).bind fun x91 =>
  (mm_ln M x91).bind fun x94 =>
  if x94 ≤ v4 then f_X4_addSide_106 M v0 else f_X4_addSide_98 M v0 v3 v4
set_option maxRecDepth 20000 in
theorem w_X4_addSide_88 {g : mm_c} (C : mm_ok g cX4_addSide "LessonCards$Evening" none "addSide" 5 0 0 0 0) {M : mm_M} {v0 : Option Nat} {v3 : Int32} {v4 : Int32} {res : mm_M} (hf : f_X4_addSide_88 M v0 v3 v4 = some res) (ko : (fun z => mm_q g 0 0 none z) res) : mm_X g 0 0 M 88 [(0, mm_r v0), (3, mm_i v3), (4, mm_i v4)] [] := by
  unfold f_X4_addSide_88 at hf
  refine xr_iload 90 2 C dX4_addSide_88 rfl rfl ?_
  refine xr_aload_n 91 0 C dX4_addSide_90 rfl rfl rfl ?_
  obtain ⟨x91, h91, hf⟩ := mm_bd_e hf
  refine xr_getR 94 C cf_X4_9 rfl h91 dX4_addSide_91 rfl ?_
  obtain ⟨x94, h94, hf⟩ := mm_bd_e hf
  refine xr_alen 95 C h94 dX4_addSide_94 rfl ?_
  refine xr_icmp_ge 106 98 C dX4_addSide_95 (by decide) rfl (fun hc => ?_) (fun hc => ?_)
  · replace hf := (if_pos hc).symm.trans hf
    refine xr_sub [0] (lv2 := [(0, mm_r v0)]) rfl ?_
    exact w_X4_addSide_106 C hf ko
  · replace hf := (if_neg hc).symm.trans hf
    exact w_X4_addSide_98 C hf ko
noncomputable def f_X4_addSide_83 (M : mm_M) (v0 : Option Nat) (v3 : Int32) (v4 : Int32) : Option (mm_M) :=
  if v4 < 0 then f_X4_addSide_106 M v0 else f_X4_addSide_88 M v0 v3 v4
set_option maxRecDepth 20000 in
theorem w_X4_addSide_83 {g : mm_c} (C : mm_ok g cX4_addSide "LessonCards$Evening" none "addSide" 5 0 0 0 0) {M : mm_M} {v0 : Option Nat} {v3 : Int32} {v4 : Int32} {res : mm_M} (hf : f_X4_addSide_83 M v0 v3 v4 = some res) (ko : (fun z => mm_q g 0 0 none z) res) : mm_X g 0 0 M 83 [(0, mm_r v0), (3, mm_i v3), (4, mm_i v4)] [] := by
  unfold f_X4_addSide_83 at hf
  refine xr_iload 85 2 C dX4_addSide_83 rfl rfl ?_
  refine xr_if_lt 106 88 C dX4_addSide_85 (by decide) rfl (fun hc => ?_) (fun hc => ?_)
  · replace hf := (if_pos hc).symm.trans hf
    refine xr_sub [0] (lv2 := [(0, mm_r v0)]) rfl ?_
    exact w_X4_addSide_106 C hf ko
  · replace hf := (if_neg hc).symm.trans hf
    exact w_X4_addSide_88 C hf ko
noncomputable def f_X4_addSide_48 (M : mm_M) (v0 : Option Nat) (v3 : Int32) (v4 : Int32) : Option ((mm_M × Int32) ⊕ (mm_M)) :=
  (mm_fR M v0 5 0).bind fun x49 =>
  (mm_aI M x49 12 (v4 - 1)).bind fun x56 =>
  if x56 ≤ v3 then mm_mp (f_X4_addSide_83 M v0 v3 v4) else f_X4_addSide_61 M v0 v3 v4
set_option maxRecDepth 20000 in
theorem w_X4_addSide_48 {g : mm_c} (C : mm_ok g cX4_addSide "LessonCards$Evening" none "addSide" 5 0 0 0 0) {M : mm_M} {v0 : Option Nat} {v3 : Int32} {v4 : Int32} {res : (mm_M × Int32) ⊕ (mm_M)} (hf : f_X4_addSide_48 M v0 v3 v4 = some res) (ko : (mm_o (h_X4_addSide_33 g v0 v3) (fun z => mm_q g 0 0 none z)) res) : mm_X g 0 0 M 48 [(0, mm_r v0), (3, mm_i v3), (4, mm_i v4)] [] := by
  unfold f_X4_addSide_48 at hf
  refine xr_aload_n 49 0 C dX4_addSide_48 rfl rfl rfl ?_
  obtain ⟨x49, h49, hf⟩ := mm_bd_e hf
  refine xr_getR 52 C cf_X4_9 rfl h49 dX4_addSide_49 rfl ?_
  refine xr_iload 54 2 C dX4_addSide_52 rfl rfl ?_
  refine xr_iconst 55 C (v := 1) dX4_addSide_54 (by decide) rfl ?_
  refine xr_isub 56 C dX4_addSide_55 rfl ?_
  obtain ⟨x56, h56, hf⟩ := mm_bd_e hf
  refine xr_aldI 57 C h56 dX4_addSide_56 rfl ?_
  refine xr_iload_n 58 1 C dX4_addSide_57 rfl rfl rfl ?_
  refine xr_icmp_le 83 61 C dX4_addSide_58 (by decide) rfl (fun hc => ?_) (fun hc => ?_)
  · replace hf := (if_pos hc).symm.trans hf
    obtain ⟨z, hf2, rfl⟩ := mm_mp_e hf
    clear hf
    have hf := hf2
    clear hf2
    exact w_X4_addSide_83 C hf ko
  · replace hf := (if_neg hc).symm.trans hf
    exact w_X4_addSide_61 C hf ko
noncomputable def f_X4_addSide_38 (M : mm_M) (v0 : Option Nat) (v3 : Int32) (v4 : Int32) : Option ((mm_M × Int32) ⊕ (mm_M)) :=
  (mm_fR M v0 5 0).bind fun x41 =>
  (mm_ln M x41).bind fun x44 =>
  if x44 ≤ v4 then mm_mp (f_X4_addSide_83 M v0 v3 v4) else f_X4_addSide_48 M v0 v3 v4
set_option maxRecDepth 20000 in
theorem w_X4_addSide_38 {g : mm_c} (C : mm_ok g cX4_addSide "LessonCards$Evening" none "addSide" 5 0 0 0 0) {M : mm_M} {v0 : Option Nat} {v3 : Int32} {v4 : Int32} {res : (mm_M × Int32) ⊕ (mm_M)} (hf : f_X4_addSide_38 M v0 v3 v4 = some res) (ko : (mm_o (h_X4_addSide_33 g v0 v3) (fun z => mm_q g 0 0 none z)) res) : mm_X g 0 0 M 38 [(0, mm_r v0), (3, mm_i v3), (4, mm_i v4)] [] := by
  unfold f_X4_addSide_38 at hf
  refine xr_iload 40 2 C dX4_addSide_38 rfl rfl ?_
  refine xr_aload_n 41 0 C dX4_addSide_40 rfl rfl rfl ?_
  obtain ⟨x41, h41, hf⟩ := mm_bd_e hf
  refine xr_getR 44 C cf_X4_9 rfl h41 dX4_addSide_41 rfl ?_
  obtain ⟨x44, h44, hf⟩ := mm_bd_e hf
  refine xr_alen 45 C h44 dX4_addSide_44 rfl ?_
  refine xr_icmp_ge 83 48 C dX4_addSide_45 (by decide) rfl (fun hc => ?_) (fun hc => ?_)
  · replace hf := (if_pos hc).symm.trans hf
    obtain ⟨z, hf2, rfl⟩ := mm_mp_e hf
    clear hf
    have hf := hf2
    clear hf2
    exact w_X4_addSide_83 C hf ko
  · replace hf := (if_neg hc).symm.trans hf
    exact w_X4_addSide_48 C hf ko
noncomputable def f_X4_addSide_33 (M : mm_M) (v0 : Option Nat) (v3 : Int32) (v4 : Int32) : Option ((mm_M × Int32) ⊕ (mm_M)) :=
  if v4 ≤ 0 then mm_mp (f_X4_addSide_83 M v0 v3 v4) else f_X4_addSide_38 M v0 v3 v4
set_option maxRecDepth 20000 in
theorem w_X4_addSide_33 {g : mm_c} (C : mm_ok g cX4_addSide "LessonCards$Evening" none "addSide" 5 0 0 0 0) {M : mm_M} {v0 : Option Nat} {v3 : Int32} {v4 : Int32} {res : (mm_M × Int32) ⊕ (mm_M)} (hf : f_X4_addSide_33 M v0 v3 v4 = some res) (ko : (mm_o (h_X4_addSide_33 g v0 v3) (fun z => mm_q g 0 0 none z)) res) : mm_X g 0 0 M 33 [(0, mm_r v0), (3, mm_i v3), (4, mm_i v4)] [] := by
  unfold f_X4_addSide_33 at hf
  refine xr_iload 35 2 C dX4_addSide_33 rfl rfl ?_
  refine xr_if_le 83 38 C dX4_addSide_35 (by decide) rfl (fun hc => ?_) (fun hc => ?_)
  · replace hf := (if_pos hc).symm.trans hf
    obtain ⟨z, hf2, rfl⟩ := mm_mp_e hf
    clear hf
    have hf := hf2
    clear hf2
    exact w_X4_addSide_83 C hf ko
  · replace hf := (if_neg hc).symm.trans hf
    exact w_X4_addSide_38 C hf ko
noncomputable def f_X4_addSide_33w (M : mm_M) (v0 : Option Nat) (v3 : Int32) (v4 : Int32) : Option (mm_M) := mm_w (fun x => f_X4_addSide_33 x.1 v0 v3 x.2) (M, v4)
theorem l_X4_addSide_33 {g : mm_c} (C : mm_ok g cX4_addSide "LessonCards$Evening" none "addSide" 5 0 0 0 0) {M : mm_M} {v0 : Option Nat} {v3 : Int32} {v4 : Int32} {res : mm_M} (hf : f_X4_addSide_33w M v0 v3 v4 = some res) (ko : (fun z => mm_q g 0 0 none z) res) : mm_X g 0 0 M 33 [(0, mm_r v0), (3, mm_i v3), (4, mm_i v4)] [] :=
  mm_w_W (body := fun x => f_X4_addSide_33 x.1 v0 v3 x.2) (Wh := h_X4_addSide_33 g v0 v3) (ok := (fun z => mm_q g 0 0 none z)) (x := (M, v4)) (fun x r hb ho => w_X4_addSide_33 C hb ho) hf ko
noncomputable def f_X4_addSide_19 (M : mm_M) (v0 : Option Nat) (v1 : Int32) (v2 : Int32) : Option (mm_M) :=
  (mm_fI M v0 5 1).bind fun x28 =>
  f_X4_addSide_33w M v0 ((v2 * 480) + v1) x28
set_option maxRecDepth 20000 in
theorem w_X4_addSide_19 {g : mm_c} (C : mm_ok g cX4_addSide "LessonCards$Evening" none "addSide" 5 0 0 0 0) {M : mm_M} {v0 : Option Nat} {v1 : Int32} {v2 : Int32} {res : mm_M} (hf : f_X4_addSide_19 M v0 v1 v2 = some res) (ko : (fun z => mm_q g 0 0 none z) res) : mm_X g 0 0 M 19 [(0, mm_r v0), (1, mm_i v1), (2, mm_i v2)] [] := by
  unfold f_X4_addSide_19 at hf
  refine xr_iload_n 20 2 C dX4_addSide_19 rfl rfl rfl ?_
  refine xr_sipush 23 C (v := 480) dX4_addSide_20 (by decide) rfl ?_
  refine xr_imul 24 C dX4_addSide_23 rfl ?_
  refine xr_iload_n 25 1 C dX4_addSide_24 rfl rfl rfl ?_
  refine xr_iadd 26 C dX4_addSide_25 rfl ?_
  refine xr_istore_n 27 C dX4_addSide_26 rfl (by decide) rfl [(3, mm_i ((v2 * 480) + v1)), (0, mm_r v0), (1, mm_i v1), (2, mm_i v2)] rfl ?_
  refine xr_aload_n 28 1 C dX4_addSide_27 rfl rfl rfl ?_
  obtain ⟨x28, h28, hf⟩ := mm_bd_e hf
  refine xr_getI 31 C cf_X4_21 rfl h28 dX4_addSide_28 rfl ?_
  refine xr_istore 33 C dX4_addSide_31 (by decide) rfl [(4, mm_i x28), (3, mm_i ((v2 * 480) + v1)), (0, mm_r v0), (1, mm_i v1), (2, mm_i v2)] rfl ?_
  refine xr_sub [2, 1, 0] (lv2 := [(0, mm_r v0), (3, mm_i ((v2 * 480) + v1)), (4, mm_i x28)]) rfl ?_
  exact l_X4_addSide_33 C hf ko
noncomputable def f_X4_addSide_6 (M : mm_M) (v0 : Option Nat) (v1 : Int32) (v2 : Int32) : Option (mm_M) :=
  (mm_fI M v0 5 1).bind fun x7 =>
  (mm_fR M v0 5 0).bind fun x11 =>
  (mm_ln M x11).bind fun x14 =>
  if x7 < x14 then f_X4_addSide_19 M v0 v1 v2 else f_X4_addSide_18 M
set_option maxRecDepth 20000 in
theorem w_X4_addSide_6 {g : mm_c} (C : mm_ok g cX4_addSide "LessonCards$Evening" none "addSide" 5 0 0 0 0) {M : mm_M} {v0 : Option Nat} {v1 : Int32} {v2 : Int32} {res : mm_M} (hf : f_X4_addSide_6 M v0 v1 v2 = some res) (ko : (fun z => mm_q g 0 0 none z) res) : mm_X g 0 0 M 6 [(0, mm_r v0), (1, mm_i v1), (2, mm_i v2)] [] := by
  unfold f_X4_addSide_6 at hf
  refine xr_aload_n 7 0 C dX4_addSide_6 rfl rfl rfl ?_
  obtain ⟨x7, h7, hf⟩ := mm_bd_e hf
  refine xr_getI 10 C cf_X4_21 rfl h7 dX4_addSide_7 rfl ?_
  refine xr_aload_n 11 0 C dX4_addSide_10 rfl rfl rfl ?_
  obtain ⟨x11, h11, hf⟩ := mm_bd_e hf
  refine xr_getR 14 C cf_X4_9 rfl h11 dX4_addSide_11 rfl ?_
  obtain ⟨x14, h14, hf⟩ := mm_bd_e hf
  refine xr_alen 15 C h14 dX4_addSide_14 rfl ?_
  refine xr_icmp_lt 19 18 C dX4_addSide_15 (by decide) rfl (fun hc => ?_) (fun hc => ?_)
  · replace hf := (if_pos hc).symm.trans hf
    exact w_X4_addSide_19 C hf ko
  · replace hf := (if_neg hc).symm.trans hf
    refine xr_sub [] (lv2 := []) rfl ?_
    exact w_X4_addSide_18 C hf ko
noncomputable def f_X4_addSide_0 (M : mm_M) (v0 : Option Nat) (v1 : Int32) (v2 : Int32) : Option (mm_M) :=
  if 60 < v2 then f_X4_addSide_18 M else f_X4_addSide_6 M v0 v1 v2
set_option maxRecDepth 20000 in
theorem w_X4_addSide_0 {g : mm_c} (C : mm_ok g cX4_addSide "LessonCards$Evening" none "addSide" 5 0 0 0 0) {M : mm_M} {v0 : Option Nat} {v1 : Int32} {v2 : Int32} {res : mm_M} (hf : f_X4_addSide_0 M v0 v1 v2 = some res) (ko : (fun z => mm_q g 0 0 none z) res) : mm_X g 0 0 M 0 [(0, mm_r v0), (1, mm_i v1), (2, mm_i v2)] [] := by
  unfold f_X4_addSide_0 at hf
  refine xr_iload_n 1 2 C dX4_addSide_0 rfl rfl rfl ?_
  refine xr_bipush 3 C (v := 60) dX4_addSide_1 (by decide) rfl ?_
  refine xr_icmp_gt 18 6 C dX4_addSide_3 (by decide) rfl (fun hc => ?_) (fun hc => ?_)
  · replace hf := (if_pos hc).symm.trans hf
    refine xr_sub [] (lv2 := []) rfl ?_
    exact w_X4_addSide_18 C hf ko
  · replace hf := (if_neg hc).symm.trans hf
    exact w_X4_addSide_6 C hf ko
noncomputable def f_X4_addSide (M : mm_M) (v0 : Option Nat) (v1 : Int32) (v2 : Int32) : Option (mm_M) := f_X4_addSide_0 M v0 v1 v2
theorem c_X4_addSide (l : Launch) (G : va_G) (cy : Nat → ClassId) {M : mm_M} {v0 : Option Nat} {v1 : Int32} {v2 : Int32} {M1 : mm_M} (hf : f_X4_addSide M v0 v1 v2 = some M1) : mm_Met l yX4_addSide cX4_addSide 5 none 0 0 0 0 G cy [mm_r v0, mm_i v1, mm_i v2] M none M1 :=
  mm_enter (by decide) (Nat.le_of_ble_eq_true rfl) (fun p e R s m args below meth c Q C hq => xr_sub [0, 1, 2] (lv2 := [(0, mm_r v0), (1, mm_i v1), (2, mm_i v2)]) rfl (w_X4_addSide_0 C hf hq))
def h_X4_gather_7 (g : mm_c) (v0 : Option Nat) (v1 : Option Nat) (v2 : Option Nat) : (mm_M × Int32) → Prop := fun x => mm_X g 0 0 x.1 7 [(0, mm_r v0), (1, mm_r v1), (2, mm_r v2), (3, mm_i x.2)] []
noncomputable def f_X4_gather_63 (M : mm_M) (v0 : Option Nat) (v1 : Option Nat) (v2 : Option Nat) (v3 : Int32) : Option ((mm_M × Int32) ⊕ (mm_M)) :=
  some (.inl (M, (v3 + 1)))
set_option maxRecDepth 20000 in
theorem w_X4_gather_63 {g : mm_c} (C : mm_ok g cX4_gather "LessonCards$Evening" none "gather" 5 5 107 0 0) {M : mm_M} {v0 : Option Nat} {v1 : Option Nat} {v2 : Option Nat} {v3 : Int32} {res : (mm_M × Int32) ⊕ (mm_M)} (hf : f_X4_gather_63 M v0 v1 v2 v3 = some res) (ko : (mm_o (h_X4_gather_7 g v0 v1 v2) (fun z => mm_q g 0 0 none z)) res) : mm_X g 0 0 M 63 [(0, mm_r v0), (1, mm_r v1), (2, mm_r v2), (3, mm_i v3)] [] := by
  unfold f_X4_gather_63 at hf
  refine xr_iinc 66 3 C dX4_gather_63 rfl (by decide) (v := 1) (by decide) rfl [(3, mm_i (v3 + 1)), (0, mm_r v0), (1, mm_r v1), (2, mm_r v2)] rfl ?_
  refine xr_goto 7 C dX4_gather_66 (by decide) ?_
  refine xr_sub [1, 2, 3, 0] (lv2 := [(0, mm_r v0), (1, mm_r v1), (2, mm_r v2), (3, mm_i (v3 + 1))]) rfl ?_
  obtain rfl := Option.some.inj hf
  exact ko
noncomputable def f_X4_gather_43 (M : mm_M) (v0 : Option Nat) (v1 : Option Nat) (v2 : Option Nat) (v3 : Int32) (v4 : Option Nat) : Option ((mm_M × Int32) ⊕ (mm_M)) :=
  (mm_fI M v1 7 3).bind fun x48 =>
  (mm_rc M v4 9).bind fun u52 =>
  (f_X8_firstDue M v4 x48 v2).bind fun x52 =>
  (mm_fI M v1 7 3).bind fun x56 =>
  (mm_rc M v0 5).bind fun u60 =>
  (f_X4_addSide M v0 v3 (x52 - x56)).bind fun M60 =>
  f_X4_gather_63 M60 v0 v1 v2 v3
set_option maxRecDepth 20000 in
theorem w_X4_gather_43 {g : mm_c} (C : mm_ok g cX4_gather "LessonCards$Evening" none "gather" 5 5 107 0 0) {M : mm_M} {v0 : Option Nat} {v1 : Option Nat} {v2 : Option Nat} {v3 : Int32} {v4 : Option Nat} {res : (mm_M × Int32) ⊕ (mm_M)} (hf : f_X4_gather_43 M v0 v1 v2 v3 v4 = some res) (ko : (mm_o (h_X4_gather_7 g v0 v1 v2) (fun z => mm_q g 0 0 none z)) res) : mm_X g 0 0 M 43 [(0, mm_r v0), (1, mm_r v1), (2, mm_r v2), (3, mm_i v3), (4, mm_r v4)] [] := by
  unfold f_X4_gather_43 at hf
  refine xr_aload_n 44 0 C dX4_gather_43 rfl rfl rfl ?_
  refine xr_iload_n 45 3 C dX4_gather_44 rfl rfl rfl ?_
  refine xr_aload 47 4 C dX4_gather_45 rfl rfl ?_
  refine xr_aload_n 48 1 C dX4_gather_47 rfl rfl rfl ?_
  obtain ⟨x48, h48, hf⟩ := mm_bd_e hf
  refine xr_getI 51 C cf_X4_37 rfl h48 dX4_gather_48 rfl ?_
  refine xr_aload_n 52 2 C dX4_gather_51 rfl rfl rfl ?_
  obtain ⟨u52, g52, hf⟩ := mm_bd_e hf
  obtain ⟨x52, h52, hf⟩ := mm_bd_e hf
  refine xr_callV 55 C [mm_i x48, mm_r v2] cm_X4_40 (fun l G cy => c_X8_firstDue l G cy h52) g52 rfl rfl ⟨⟨Nat.le_of_ble_eq_true rfl, Nat.le_of_ble_eq_true rfl⟩, (Nat.le_of_ble_eq_true rfl), (Nat.le_of_ble_eq_true rfl)⟩ (Nat.le_of_ble_eq_true rfl) dX4_gather_52 rfl ?_
  refine xr_aload_n 56 1 C dX4_gather_55 rfl rfl rfl ?_
  obtain ⟨x56, h56, hf⟩ := mm_bd_e hf
  refine xr_getI 59 C cf_X4_37 rfl h56 dX4_gather_56 rfl ?_
  refine xr_isub 60 C dX4_gather_59 rfl ?_
  obtain ⟨u60, g60, hf⟩ := mm_bd_e hf
  obtain ⟨M60, h60, hf⟩ := mm_bd_e hf
  refine xr_callV 63 C [mm_i v3, mm_i (x52 - x56)] cm_X4_44 (fun l G cy => c_X4_addSide l G cy h60) g60 rfl rfl ⟨⟨Nat.le_of_ble_eq_true rfl, Nat.le_of_ble_eq_true rfl⟩, (Nat.le_of_ble_eq_true rfl), (Nat.le_of_ble_eq_true rfl)⟩ (Nat.le_of_ble_eq_true rfl) dX4_gather_60 rfl ?_
  refine xr_sub [0, 1, 2, 3] (lv2 := [(0, mm_r v0), (1, mm_r v1), (2, mm_r v2), (3, mm_i v3)]) rfl ?_
  exact w_X4_gather_63 C hf ko
noncomputable def f_X4_gather_35 (M : mm_M) (v0 : Option Nat) (v1 : Option Nat) (v2 : Option Nat) (v3 : Int32) (v4 : Option Nat) : Option ((mm_M × Int32) ⊕ (mm_M)) :=
  (mm_rc M v4 9).bind fun u37 =>
  (f_X8_isToCome M v4).bind fun x37 =>
  if x37 = 0 then f_X4_gather_63 M v0 v1 v2 v3 else f_X4_gather_43 M v0 v1 v2 v3 v4
set_option maxRecDepth 20000 in
theorem w_X4_gather_35 {g : mm_c} (C : mm_ok g cX4_gather "LessonCards$Evening" none "gather" 5 5 107 0 0) {M : mm_M} {v0 : Option Nat} {v1 : Option Nat} {v2 : Option Nat} {v3 : Int32} {v4 : Option Nat} {res : (mm_M × Int32) ⊕ (mm_M)} (hf : f_X4_gather_35 M v0 v1 v2 v3 v4 = some res) (ko : (mm_o (h_X4_gather_7 g v0 v1 v2) (fun z => mm_q g 0 0 none z)) res) : mm_X g 0 0 M 35 [(0, mm_r v0), (1, mm_r v1), (2, mm_r v2), (3, mm_i v3), (4, mm_r v4)] [] := by
  unfold f_X4_gather_35 at hf
  refine xr_aload 37 4 C dX4_gather_35 rfl rfl ?_
  obtain ⟨u37, g37, hf⟩ := mm_bd_e hf
  obtain ⟨x37, h37, hf⟩ := mm_bd_e hf
  refine xr_callV 40 C [] cm_X4_31 (fun l G cy => c_X8_isToCome l G cy h37) g37 rfl rfl ⟨⟨Nat.le_of_ble_eq_true rfl, Nat.le_of_ble_eq_true rfl⟩, (Nat.le_of_ble_eq_true rfl), (Nat.le_of_ble_eq_true rfl)⟩ (Nat.le_of_ble_eq_true rfl) dX4_gather_37 rfl ?_
  refine xr_if_eq 63 43 C dX4_gather_40 (by decide) rfl (fun hc => ?_) (fun hc => ?_)
  · replace hf := (if_pos hc).symm.trans hf
    refine xr_sub [0, 1, 2, 3] (lv2 := [(0, mm_r v0), (1, mm_r v1), (2, mm_r v2), (3, mm_i v3)]) rfl ?_
    exact w_X4_gather_63 C hf ko
  · replace hf := (if_neg hc).symm.trans hf
    exact w_X4_gather_43 C hf ko
noncomputable def f_X4_gather_16 (M : mm_M) (v0 : Option Nat) (v1 : Option Nat) (v2 : Option Nat) (v3 : Int32) : Option ((mm_M × Int32) ⊕ (mm_M)) :=
  (mm_fR M v0 5 2).bind fun x17 =>
  (mm_tI M x17 v3 (-1)).bind fun M22 =>
  (mm_rc M22 v1 7).bind fun u25 =>
  (f_X6_memoryAt M22 v1 v3).bind fun x25 =>
  if x25 = none then f_X4_gather_63 M22 v0 v1 v2 v3 else f_X4_gather_35 M22 v0 v1 v2 v3 x25
set_option maxRecDepth 20000 in
theorem w_X4_gather_16 {g : mm_c} (C : mm_ok g cX4_gather "LessonCards$Evening" none "gather" 5 5 107 0 0) {M : mm_M} {v0 : Option Nat} {v1 : Option Nat} {v2 : Option Nat} {v3 : Int32} {res : (mm_M × Int32) ⊕ (mm_M)} (hf : f_X4_gather_16 M v0 v1 v2 v3 = some res) (ko : (mm_o (h_X4_gather_7 g v0 v1 v2) (fun z => mm_q g 0 0 none z)) res) : mm_X g 0 0 M 16 [(0, mm_r v0), (1, mm_r v1), (2, mm_r v2), (3, mm_i v3)] [] := by
  unfold f_X4_gather_16 at hf
  refine xr_aload_n 17 0 C dX4_gather_16 rfl rfl rfl ?_
  obtain ⟨x17, h17, hf⟩ := mm_bd_e hf
  refine xr_getR 20 C cf_X4_15 rfl h17 dX4_gather_17 rfl ?_
  refine xr_iload_n 21 3 C dX4_gather_20 rfl rfl rfl ?_
  refine xr_iconst 22 C (v := (-1)) dX4_gather_21 (by decide) rfl ?_
  obtain ⟨M22, h22, hf⟩ := mm_bd_e hf
  refine xr_astI 23 C h22 dX4_gather_22 rfl ?_
  refine xr_aload_n 24 1 C dX4_gather_23 rfl rfl rfl ?_
  refine xr_iload_n 25 3 C dX4_gather_24 rfl rfl rfl ?_
  obtain ⟨u25, g25, hf⟩ := mm_bd_e hf
  obtain ⟨x25, h25, hf⟩ := mm_bd_e hf
  refine xr_callV 28 C [mm_i v3] cm_X4_25 (fun l G cy => c_X6_memoryAt l G cy h25) g25 rfl rfl ⟨⟨Nat.le_of_ble_eq_true rfl, Nat.le_of_ble_eq_true rfl⟩, (Nat.le_of_ble_eq_true rfl), (Nat.le_of_ble_eq_true rfl)⟩ (Nat.le_of_ble_eq_true rfl) dX4_gather_25 rfl ?_
  refine xr_astore 30 C dX4_gather_28 (by decide) rfl [(4, mm_r x25), (0, mm_r v0), (1, mm_r v1), (2, mm_r v2), (3, mm_i v3)] rfl ?_
  refine xr_aload 32 0 C dX4_gather_30 rfl rfl ?_
  refine xr_ifnull 63 35 C dX4_gather_32 (by decide) rfl (fun hc => ?_) (fun hc => ?_)
  · replace hf := (if_pos hc).symm.trans hf
    refine xr_sub [1, 2, 3, 4] (lv2 := [(0, mm_r v0), (1, mm_r v1), (2, mm_r v2), (3, mm_i v3)]) rfl ?_
    exact w_X4_gather_63 C hf ko
  · replace hf := (if_neg hc).symm.trans hf
    refine xr_sub [1, 2, 3, 4, 0] (lv2 := [(0, mm_r v0), (1, mm_r v1), (2, mm_r v2), (3, mm_i v3), (4, mm_r x25)]) rfl ?_
    exact w_X4_gather_35 C hf ko
noncomputable def f_X4_gather_69 (M : mm_M) (v0 : Option Nat) : Option (mm_M) :=
  (mm_pZ M v0 5 4 1).bind fun M71 =>
  some M71
set_option maxRecDepth 20000 in
theorem w_X4_gather_69 {g : mm_c} (C : mm_ok g cX4_gather "LessonCards$Evening" none "gather" 5 5 107 0 0) {M : mm_M} {v0 : Option Nat} {res : mm_M} (hf : f_X4_gather_69 M v0 = some res) (ko : (fun z => mm_q g 0 0 none z) res) : mm_X g 0 0 M 69 [(0, mm_r v0)] [] := by
  unfold f_X4_gather_69 at hf
  refine xr_aload_n 70 0 C dX4_gather_69 rfl rfl rfl ?_
  refine xr_iconst 71 C (v := 1) dX4_gather_70 (by decide) rfl ?_
  obtain ⟨M71, h71, hf⟩ := mm_bd_e hf
  refine xr_putZ 74 C cf_X4_48 (fun h => by cases h) h71 dX4_gather_71 rfl ?_
  obtain rfl := Option.some.inj hf
  exact xr_vret C ko ⟨(Nat.le_of_ble_eq_true rfl), (Nat.le_of_ble_eq_true rfl)⟩ dX4_gather_74
noncomputable def f_X4_gather_7 (M : mm_M) (v0 : Option Nat) (v1 : Option Nat) (v2 : Option Nat) (v3 : Int32) : Option ((mm_M × Int32) ⊕ (mm_M)) :=
  (mm_fR M v0 5 2).bind fun x9 =>
  (mm_ln M x9).bind fun x12 =>
  if x12 ≤ v3 then mm_mp (f_X4_gather_69 M v0) else f_X4_gather_16 M v0 v1 v2 v3
set_option maxRecDepth 20000 in
theorem w_X4_gather_7 {g : mm_c} (C : mm_ok g cX4_gather "LessonCards$Evening" none "gather" 5 5 107 0 0) {M : mm_M} {v0 : Option Nat} {v1 : Option Nat} {v2 : Option Nat} {v3 : Int32} {res : (mm_M × Int32) ⊕ (mm_M)} (hf : f_X4_gather_7 M v0 v1 v2 v3 = some res) (ko : (mm_o (h_X4_gather_7 g v0 v1 v2) (fun z => mm_q g 0 0 none z)) res) : mm_X g 0 0 M 7 [(0, mm_r v0), (1, mm_r v1), (2, mm_r v2), (3, mm_i v3)] [] := by
  unfold f_X4_gather_7 at hf
  refine xr_iload_n 8 3 C dX4_gather_7 rfl rfl rfl ?_
  refine xr_aload_n 9 0 C dX4_gather_8 rfl rfl rfl ?_
  obtain ⟨x9, h9, hf⟩ := mm_bd_e hf
  refine xr_getR 12 C cf_X4_15 rfl h9 dX4_gather_9 rfl ?_
  obtain ⟨x12, h12, hf⟩ := mm_bd_e hf
  refine xr_alen 13 C h12 dX4_gather_12 rfl ?_
  refine xr_icmp_ge 69 16 C dX4_gather_13 (by decide) rfl (fun hc => ?_) (fun hc => ?_)
  · replace hf := (if_pos hc).symm.trans hf
    refine xr_sub [0] (lv2 := [(0, mm_r v0)]) rfl ?_
    obtain ⟨z, hf2, rfl⟩ := mm_mp_e hf
    clear hf
    have hf := hf2
    clear hf2
    exact w_X4_gather_69 C hf ko
  · replace hf := (if_neg hc).symm.trans hf
    exact w_X4_gather_16 C hf ko
noncomputable def f_X4_gather_7w (M : mm_M) (v0 : Option Nat) (v1 : Option Nat) (v2 : Option Nat) (v3 : Int32) : Option (mm_M) := mm_w (fun x => f_X4_gather_7 x.1 v0 v1 v2 x.2) (M, v3)
theorem l_X4_gather_7 {g : mm_c} (C : mm_ok g cX4_gather "LessonCards$Evening" none "gather" 5 5 107 0 0) {M : mm_M} {v0 : Option Nat} {v1 : Option Nat} {v2 : Option Nat} {v3 : Int32} {res : mm_M} (hf : f_X4_gather_7w M v0 v1 v2 v3 = some res) (ko : (fun z => mm_q g 0 0 none z) res) : mm_X g 0 0 M 7 [(0, mm_r v0), (1, mm_r v1), (2, mm_r v2), (3, mm_i v3)] [] :=
  mm_w_W (body := fun x => f_X4_gather_7 x.1 v0 v1 v2 x.2) (Wh := h_X4_gather_7 g v0 v1 v2) (ok := (fun z => mm_q g 0 0 none z)) (x := (M, v3)) (fun x r hb ho => w_X4_gather_7 C hb ho) hf ko
noncomputable def f_X4_gather_0 (M : mm_M) (v0 : Option Nat) (v1 : Option Nat) (v2 : Option Nat) : Option (mm_M) :=
  (mm_pI M v0 5 1 0).bind fun M2 =>
  f_X4_gather_7w M2 v0 v1 v2 0
set_option maxRecDepth 20000 in
theorem w_X4_gather_0 {g : mm_c} (C : mm_ok g cX4_gather "LessonCards$Evening" none "gather" 5 5 107 0 0) {M : mm_M} {v0 : Option Nat} {v1 : Option Nat} {v2 : Option Nat} {res : mm_M} (hf : f_X4_gather_0 M v0 v1 v2 = some res) (ko : (fun z => mm_q g 0 0 none z) res) : mm_X g 0 0 M 0 [(0, mm_r v0), (1, mm_r v1), (2, mm_r v2)] [] := by
  unfold f_X4_gather_0 at hf
  refine xr_aload_n 1 0 C dX4_gather_0 rfl rfl rfl ?_
  refine xr_iconst 2 C (v := 0) dX4_gather_1 (by decide) rfl ?_
  obtain ⟨M2, h2, hf⟩ := mm_bd_e hf
  refine xr_putI 5 C cf_X4_21 (fun h => by cases h) h2 dX4_gather_2 rfl ?_
  refine xr_iconst 6 C (v := 0) dX4_gather_5 (by decide) rfl ?_
  refine xr_istore_n 7 C dX4_gather_6 rfl (by decide) rfl [(3, mm_i 0), (0, mm_r v0), (1, mm_r v1), (2, mm_r v2)] rfl ?_
  refine xr_sub [1, 2, 3, 0] (lv2 := [(0, mm_r v0), (1, mm_r v1), (2, mm_r v2), (3, mm_i 0)]) rfl ?_
  exact l_X4_gather_7 C hf ko
noncomputable def f_X4_gather (M : mm_M) (v0 : Option Nat) (v1 : Option Nat) (v2 : Option Nat) : Option (mm_M) := f_X4_gather_0 M v0 v1 v2
theorem c_X4_gather (l : Launch) (G : va_G) (cy : Nat → ClassId) {M : mm_M} {v0 : Option Nat} {v1 : Option Nat} {v2 : Option Nat} {M1 : mm_M} (hf : f_X4_gather M v0 v1 v2 = some M1) : mm_Met l yX4_gather cX4_gather 5 none 5 107 0 0 G cy [mm_r v0, mm_r v1, mm_r v2] M none M1 :=
  mm_enter (by decide) (Nat.le_of_ble_eq_true rfl) (fun p e R s m args below meth c Q C hq => xr_sub [0, 1, 2] (lv2 := [(0, mm_r v0), (1, mm_r v1), (2, mm_r v2)]) rfl (w_X4_gather_0 C hf hq))
noncomputable def f_X4_putOn_20 (M : mm_M) : Option (mm_M) :=
  some M
set_option maxRecDepth 20000 in
theorem w_X4_putOn_20 {g : mm_c} (C : mm_ok g cX4_putOn "LessonCards$Evening" none "putOn" 3 0 0 0 0) {M : mm_M} {res : mm_M} (hf : f_X4_putOn_20 M = some res) (ko : (fun z => mm_q g 0 0 none z) res) : mm_X g 0 0 M 20 [] [] := by
  unfold f_X4_putOn_20 at hf
  obtain rfl := Option.some.inj hf
  exact xr_vret C ko ⟨(Nat.le_of_ble_eq_true rfl), (Nat.le_of_ble_eq_true rfl)⟩ dX4_putOn_20
noncomputable def f_X4_putOn_13 (M : mm_M) (v0 : Option Nat) (v1 : Int32) (v2 : Int32) : Option (mm_M) :=
  (mm_fR M v0 5 2).bind fun x14 =>
  (mm_tI M x14 v1 v2).bind fun M19 =>
  f_X4_putOn_20 M19
set_option maxRecDepth 20000 in
theorem w_X4_putOn_13 {g : mm_c} (C : mm_ok g cX4_putOn "LessonCards$Evening" none "putOn" 3 0 0 0 0) {M : mm_M} {v0 : Option Nat} {v1 : Int32} {v2 : Int32} {res : mm_M} (hf : f_X4_putOn_13 M v0 v1 v2 = some res) (ko : (fun z => mm_q g 0 0 none z) res) : mm_X g 0 0 M 13 [(0, mm_r v0), (1, mm_i v1), (2, mm_i v2)] [] := by
  unfold f_X4_putOn_13 at hf
  refine xr_aload_n 14 0 C dX4_putOn_13 rfl rfl rfl ?_
  obtain ⟨x14, h14, hf⟩ := mm_bd_e hf
  refine xr_getR 17 C cf_X4_15 rfl h14 dX4_putOn_14 rfl ?_
  refine xr_iload_n 18 1 C dX4_putOn_17 rfl rfl rfl ?_
  refine xr_iload_n 19 2 C dX4_putOn_18 rfl rfl rfl ?_
  obtain ⟨M19, h19, hf⟩ := mm_bd_e hf
  refine xr_astI 20 C h19 dX4_putOn_19 rfl ?_
  refine xr_sub [] (lv2 := []) rfl ?_
  exact w_X4_putOn_20 C hf ko
noncomputable def f_X4_putOn_4 (M : mm_M) (v0 : Option Nat) (v1 : Int32) (v2 : Int32) : Option (mm_M) :=
  (mm_fR M v0 5 2).bind fun x6 =>
  (mm_ln M x6).bind fun x9 =>
  if x9 ≤ v1 then f_X4_putOn_20 M else f_X4_putOn_13 M v0 v1 v2
set_option maxRecDepth 20000 in
theorem w_X4_putOn_4 {g : mm_c} (C : mm_ok g cX4_putOn "LessonCards$Evening" none "putOn" 3 0 0 0 0) {M : mm_M} {v0 : Option Nat} {v1 : Int32} {v2 : Int32} {res : mm_M} (hf : f_X4_putOn_4 M v0 v1 v2 = some res) (ko : (fun z => mm_q g 0 0 none z) res) : mm_X g 0 0 M 4 [(0, mm_r v0), (1, mm_i v1), (2, mm_i v2)] [] := by
  unfold f_X4_putOn_4 at hf
  refine xr_iload_n 5 1 C dX4_putOn_4 rfl rfl rfl ?_
  refine xr_aload_n 6 0 C dX4_putOn_5 rfl rfl rfl ?_
  obtain ⟨x6, h6, hf⟩ := mm_bd_e hf
  refine xr_getR 9 C cf_X4_15 rfl h6 dX4_putOn_6 rfl ?_
  obtain ⟨x9, h9, hf⟩ := mm_bd_e hf
  refine xr_alen 10 C h9 dX4_putOn_9 rfl ?_
  refine xr_icmp_ge 20 13 C dX4_putOn_10 (by decide) rfl (fun hc => ?_) (fun hc => ?_)
  · replace hf := (if_pos hc).symm.trans hf
    refine xr_sub [] (lv2 := []) rfl ?_
    exact w_X4_putOn_20 C hf ko
  · replace hf := (if_neg hc).symm.trans hf
    exact w_X4_putOn_13 C hf ko
noncomputable def f_X4_putOn_0 (M : mm_M) (v0 : Option Nat) (v1 : Int32) (v2 : Int32) : Option (mm_M) :=
  if v1 < 0 then f_X4_putOn_20 M else f_X4_putOn_4 M v0 v1 v2
set_option maxRecDepth 20000 in
theorem w_X4_putOn_0 {g : mm_c} (C : mm_ok g cX4_putOn "LessonCards$Evening" none "putOn" 3 0 0 0 0) {M : mm_M} {v0 : Option Nat} {v1 : Int32} {v2 : Int32} {res : mm_M} (hf : f_X4_putOn_0 M v0 v1 v2 = some res) (ko : (fun z => mm_q g 0 0 none z) res) : mm_X g 0 0 M 0 [(0, mm_r v0), (1, mm_i v1), (2, mm_i v2)] [] := by
  unfold f_X4_putOn_0 at hf
  refine xr_iload_n 1 1 C dX4_putOn_0 rfl rfl rfl ?_
  refine xr_if_lt 20 4 C dX4_putOn_1 (by decide) rfl (fun hc => ?_) (fun hc => ?_)
  · replace hf := (if_pos hc).symm.trans hf
    refine xr_sub [] (lv2 := []) rfl ?_
    exact w_X4_putOn_20 C hf ko
  · replace hf := (if_neg hc).symm.trans hf
    exact w_X4_putOn_4 C hf ko
noncomputable def f_X4_putOn (M : mm_M) (v0 : Option Nat) (v1 : Int32) (v2 : Int32) : Option (mm_M) := f_X4_putOn_0 M v0 v1 v2
theorem c_X4_putOn (l : Launch) (G : va_G) (cy : Nat → ClassId) {M : mm_M} {v0 : Option Nat} {v1 : Int32} {v2 : Int32} {M1 : mm_M} (hf : f_X4_putOn M v0 v1 v2 = some M1) : mm_Met l yX4_putOn cX4_putOn 3 none 0 0 0 0 G cy [mm_r v0, mm_i v1, mm_i v2] M none M1 :=
  mm_enter (by decide) (Nat.le_of_ble_eq_true rfl) (fun p e R s m args below meth c Q C hq => xr_sub [0, 1, 2] (lv2 := [(0, mm_r v0), (1, mm_i v1), (2, mm_i v2)]) rfl (w_X4_putOn_0 C hf hq))
