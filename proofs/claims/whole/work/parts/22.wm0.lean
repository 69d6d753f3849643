def h_X10_init_357 (g : mm_c) (v0 : Nat) : (mm_M × Int32) → Prop := fun x => mm_X g 31 49781 x.1 357 [(0, mm_r (some v0)), (1, mm_i x.2)] []
def h_X10_init_326 (g : mm_c) (v0 : Nat) : (mm_M × Int32) → Prop := fun x => mm_X g 31 49781 x.1 326 [(0, mm_r (some v0)), (1, mm_i x.2)] []
noncomputable def f_X10_init_333 (M : mm_M) (v0 : Nat) (v1 : Int32) : Option ((mm_M × Int32) ⊕ (mm_M)) :=
  (mm_fR M (some v0) 11 14).bind fun x334 =>
  (mm_tI M x334 v1 2500).bind fun M341 =>
  (mm_fR M341 (some v0) 11 16).bind fun x343 =>
  (mm_tI M341 x343 v1 (-1)).bind fun M348 =>
  some (.inl (M348, (v1 + 1)))
set_option maxRecDepth 20000 in
theorem w_X10_init_333 {g : mm_c} (C : mm_ok g cX10_init "LessonCardsModel" none "<init>" 2 1 20 31 49781) {M : mm_M} {v0 : Nat} {v1 : Int32} {res : (mm_M × Int32) ⊕ (mm_M)} (hf : f_X10_init_333 M v0 v1 = some res) (ko : (mm_o (h_X10_init_326 g v0) (fun z => mm_q g 31 49781 none z)) res) : mm_X g 31 49781 M 333 [(0, mm_r (some v0)), (1, mm_i v1)] [] := by
  unfold f_X10_init_333 at hf
  refine xr_aload_n 334 0 C dX10_init_333 rfl rfl rfl ?_
  obtain ⟨x334, h334, hf⟩ := mm_bd_e hf
  refine xr_getR 337 C cf_X10_48 rfl h334 dX10_init_334 rfl ?_
  refine xr_iload_n 338 1 C dX10_init_337 rfl rfl rfl ?_
  refine xr_sipush 341 C (v := 2500) dX10_init_338 (by decide) rfl ?_
  obtain ⟨M341, h341, hf⟩ := mm_bd_e hf
  refine xr_astI 342 C h341 dX10_init_341 rfl ?_
  refine xr_aload_n 343 0 C dX10_init_342 rfl rfl rfl ?_
  obtain ⟨x343, h343, hf⟩ := mm_bd_e hf
  refine xr_getR 346 C cf_X10_54 rfl h343 dX10_init_343 rfl ?_
  refine xr_iload_n 347 1 C dX10_init_346 rfl rfl rfl ?_
  refine xr_iconst 348 C (v := (-1)) dX10_init_347 (by decide) rfl ?_
  obtain ⟨M348, h348, hf⟩ := mm_bd_e hf
  refine xr_astI 349 C h348 dX10_init_348 rfl ?_
  refine xr_iinc 352 1 C dX10_init_349 rfl (by decide) (v := 1) (by decide) rfl [(1, mm_i (v1 + 1)), (0, mm_r (some v0))] rfl ?_
  refine xr_goto 326 C dX10_init_352 (by decide) ?_
  refine xr_sub [1, 0] (lv2 := [(0, mm_r (some v0)), (1, mm_i (v1 + 1))]) rfl ?_
  obtain rfl := Option.some.inj hf
  exact ko
noncomputable def f_X10_init_364 (M : mm_M) (v0 : Nat) (v1 : Int32) : Option ((mm_M × Int32) ⊕ (mm_M)) :=
  (mm_fR M (some v0) 11 35).bind fun x365 =>
  (mm_tI M x365 v1 (-1)).bind fun M370 =>
  some (.inl (M370, (v1 + 1)))
set_option maxRecDepth 20000 in
theorem w_X10_init_364 {g : mm_c} (C : mm_ok g cX10_init "LessonCardsModel" none "<init>" 2 1 20 31 49781) {M : mm_M} {v0 : Nat} {v1 : Int32} {res : (mm_M × Int32) ⊕ (mm_M)} (hf : f_X10_init_364 M v0 v1 = some res) (ko : (mm_o (h_X10_init_357 g v0) (fun z => mm_q g 31 49781 none z)) res) : mm_X g 31 49781 M 364 [(0, mm_r (some v0)), (1, mm_i v1)] [] := by
  unfold f_X10_init_364 at hf
  refine xr_aload_n 365 0 C dX10_init_364 rfl rfl rfl ?_
  obtain ⟨x365, h365, hf⟩ := mm_bd_e hf
  refine xr_getR 368 C cf_X10_93 rfl h365 dX10_init_365 rfl ?_
  refine xr_iload_n 369 1 C dX10_init_368 rfl rfl rfl ?_
  refine xr_iconst 370 C (v := (-1)) dX10_init_369 (by decide) rfl ?_
  obtain ⟨M370, h370, hf⟩ := mm_bd_e hf
  refine xr_astI 371 C h370 dX10_init_370 rfl ?_
  refine xr_iinc 374 1 C dX10_init_371 rfl (by decide) (v := 1) (by decide) rfl [(1, mm_i (v1 + 1)), (0, mm_r (some v0))] rfl ?_
  refine xr_goto 357 C dX10_init_374 (by decide) ?_
  refine xr_sub [1, 0] (lv2 := [(0, mm_r (some v0)), (1, mm_i (v1 + 1))]) rfl ?_
  obtain rfl := Option.some.inj hf
  exact ko
noncomputable def f_X10_init_377 (M : mm_M) : Option (mm_M) :=
  some M
set_option maxRecDepth 20000 in
theorem w_X10_init_377 {g : mm_c} (C : mm_ok g cX10_init "LessonCardsModel" none "<init>" 2 1 20 31 49781) {M : mm_M} {res : mm_M} (hf : f_X10_init_377 M = some res) (ko : (fun z => mm_q g 31 49781 none z) res) : mm_X g 31 49781 M 377 [] [] := by
  unfold f_X10_init_377 at hf
  obtain rfl := Option.some.inj hf
  exact xr_vret C ko ⟨(Nat.le_of_ble_eq_true rfl), (Nat.le_of_ble_eq_true rfl)⟩ dX10_init_377
noncomputable def f_X10_init_357 (M : mm_M) (v0 : Nat) (v1 : Int32) : Option ((mm_M × Int32) ⊕ (mm_M)) :=
  if 480 ≤ v1 then mm_mp (f_X10_init_377 M) else f_X10_init_364 M v0 v1
set_option maxRecDepth 20000 in
theorem w_X10_init_357 {g : mm_c} (C : mm_ok g cX10_init "LessonCardsModel" none "<init>" 2 1 20 31 49781) {M : mm_M} {v0 : Nat} {v1 : Int32} {res : (mm_M × Int32) ⊕ (mm_M)} (hf : f_X10_init_357 M v0 v1 = some res) (ko : (mm_o (h_X10_init_357 g v0) (fun z => mm_q g 31 49781 none z)) res) : mm_X g 31 49781 M 357 [(0, mm_r (some v0)), (1, mm_i v1)] [] := by
  unfold f_X10_init_357 at hf
  refine xr_iload_n 358 1 C dX10_init_357 rfl rfl rfl ?_
  refine xr_sipush 361 C (v := 480) dX10_init_358 (by decide) rfl ?_
  refine xr_icmp_ge 377 364 C dX10_init_361 (by decide) rfl (fun hc => ?_) (fun hc => ?_)
  · replace hf := (if_pos hc).symm.trans hf
    refine xr_sub [] (lv2 := []) rfl ?_
    obtain ⟨z, hf2, rfl⟩ := mm_mp_e hf
    clear hf
    have hf := hf2
    clear hf2
    exact w_X10_init_377 C hf ko
  · replace hf := (if_neg hc).symm.trans hf
    exact w_X10_init_364 C hf ko
noncomputable def f_X10_init_357w (M : mm_M) (v0 : Nat) (v1 : Int32) : Option (mm_M) := mm_w (fun x => f_X10_init_357 x.1 v0 x.2) (M, v1)
theorem l_X10_init_357 {g : mm_c} (C : mm_ok g cX10_init "LessonCardsModel" none "<init>" 2 1 20 31 49781) {M : mm_M} {v0 : Nat} {v1 : Int32} {res : mm_M} (hf : f_X10_init_357w M v0 v1 = some res) (ko : (fun z => mm_q g 31 49781 none z) res) : mm_X g 31 49781 M 357 [(0, mm_r (some v0)), (1, mm_i v1)] [] :=
  mm_w_W (body := fun x => f_X10_init_357 x.1 v0 x.2) (Wh := h_X10_init_357 g v0) (ok := (fun z => mm_q g 31 49781 none z)) (x := (M, v1)) (fun x r hb ho => w_X10_init_357 C hb ho) hf ko
noncomputable def f_X10_init_355 (M : mm_M) (v0 : Nat) : Option (mm_M) :=
  f_X10_init_357w M v0 0
set_option maxRecDepth 20000 in
theorem w_X10_init_355 {g : mm_c} (C : mm_ok g cX10_init "LessonCardsModel" none "<init>" 2 1 20 31 49781) {M : mm_M} {v0 : Nat} {res : mm_M} (hf : f_X10_init_355 M v0 = some res) (ko : (fun z => mm_q g 31 49781 none z) res) : mm_X g 31 49781 M 355 [(0, mm_r (some v0))] [] := by
  unfold f_X10_init_355 at hf
  refine xr_iconst 356 C (v := 0) dX10_init_355 (by decide) rfl ?_
  refine xr_istore_n 357 C dX10_init_356 rfl (by decide) rfl [(1, mm_i 0), (0, mm_r (some v0))] rfl ?_
  refine xr_sub [1, 0] (lv2 := [(0, mm_r (some v0)), (1, mm_i 0)]) rfl ?_
  exact l_X10_init_357 C hf ko
noncomputable def f_X10_init_326 (M : mm_M) (v0 : Nat) (v1 : Int32) : Option ((mm_M × Int32) ⊕ (mm_M)) :=
  if 1920 ≤ v1 then mm_mp (f_X10_init_355 M v0) else f_X10_init_333 M v0 v1
set_option maxRecDepth 20000 in
theorem w_X10_init_326 {g : mm_c} (C : mm_ok g cX10_init "LessonCardsModel" none "<init>" 2 1 20 31 49781) {M : mm_M} {v0 : Nat} {v1 : Int32} {res : (mm_M × Int32) ⊕ (mm_M)} (hf : f_X10_init_326 M v0 v1 = some res) (ko : (mm_o (h_X10_init_326 g v0) (fun z => mm_q g 31 49781 none z)) res) : mm_X g 31 49781 M 326 [(0, mm_r (some v0)), (1, mm_i v1)] [] := by
  unfold f_X10_init_326 at hf
  refine xr_iload_n 327 1 C dX10_init_326 rfl rfl rfl ?_
  refine xr_sipush 330 C (v := 1920) dX10_init_327 (by decide) rfl ?_
  refine xr_icmp_ge 355 333 C dX10_init_330 (by decide) rfl (fun hc => ?_) (fun hc => ?_)
  · replace hf := (if_pos hc).symm.trans hf
    refine xr_sub [0] (lv2 := [(0, mm_r (some v0))]) rfl ?_
    obtain ⟨z, hf2, rfl⟩ := mm_mp_e hf
    clear hf
    have hf := hf2
    clear hf2
    exact w_X10_init_355 C hf ko
  · replace hf := (if_neg hc).symm.trans hf
    exact w_X10_init_333 C hf ko
noncomputable def f_X10_init_326w (M : mm_M) (v0 : Nat) (v1 : Int32) : Option (mm_M) := mm_w (fun x => f_X10_init_326 x.1 v0 x.2) (M, v1)
theorem l_X10_init_326 {g : mm_c} (C : mm_ok g cX10_init "LessonCardsModel" none "<init>" 2 1 20 31 49781) {M : mm_M} {v0 : Nat} {v1 : Int32} {res : mm_M} (hf : f_X10_init_326w M v0 v1 = some res) (ko : (fun z => mm_q g 31 49781 none z) res) : mm_X g 31 49781 M 326 [(0, mm_r (some v0)), (1, mm_i v1)] [] :=
  mm_w_W (body := fun x => f_X10_init_326 x.1 v0 x.2) (Wh := h_X10_init_326 g v0) (ok := (fun z => mm_q g 31 49781 none z)) (x := (M, v1)) (fun x r hb ho => w_X10_init_326 C hb ho) hf ko
noncomputable def f_X10_init_0 (M : mm_M) (v0 : Nat) : Option (mm_M) :=
  (mm_na M 12 120 120).bind fun M7 =>
  (mm_pR M7 (some v0) 11 0 (some (mm_n M))).bind fun M9 =>
  (mm_na M9 12 480 480).bind fun M16 =>
  (mm_pR M16 (some v0) 11 1 (some (mm_n M9))).bind fun M18 =>
  (mm_na M18 12 120 120).bind fun M24 =>
  (mm_pR M24 (some v0) 11 2 (some (mm_n M18))).bind fun M26 =>
  (mm_na M26 12 4 4).bind fun M31 =>
  (mm_pR M31 (some v0) 11 5 (some (mm_n M26))).bind fun M33 =>
  (mm_pI M33 (some v0) 11 6 60).bind fun M39 =>
  (mm_pI M39 (some v0) 11 7 10).bind fun M45 =>
  (mm_na M45 12 4 4).bind fun M50 =>
  (mm_pR M50 (some v0) 11 8 (some (mm_n M45))).bind fun M52 =>
  (mm_na M52 12 1920 1920).bind fun M59 =>
  (mm_pR M59 (some v0) 11 9 (some (mm_n M52))).bind fun M61 =>
  (mm_na M61 12 4 4).bind fun M66 =>
  (mm_pR M66 (some v0) 11 10 (some (mm_n M61))).bind fun M68 =>
  (mm_na M68 12 1920 1920).bind fun M75 =>
  (mm_pR M75 (some v0) 11 11 (some (mm_n M68))).bind fun M77 =>
  (mm_na M77 14 1920 1920).bind fun M84 =>
  (mm_pR M84 (some v0) 11 12 (some (mm_n M77))).bind fun M86 =>
  (mm_na M86 12 1920 1920).bind fun M93 =>
  (mm_pR M93 (some v0) 11 13 (some (mm_n M86))).bind fun M95 =>
  (mm_na M95 12 1920 1920).bind fun M102 =>
  (mm_pR M102 (some v0) 11 14 (some (mm_n M95))).bind fun M104 =>
  (mm_na M104 12 1920 1920).bind fun M111 =>
  (mm_pR M111 (some v0) 11 15 (some (mm_n M104))).bind fun M113 =>
  (mm_na M113 12 1920 1920).bind fun M120 =>
  (mm_pR M120 (some v0) 11 16 (some (mm_n M113))).bind fun M122 =>
  (mm_na M122 12 1920 1920).bind fun M129 =>
  (mm_pR M129 (some v0) 11 17 (some (mm_n M122))).bind fun M131 =>
  (mm_na M131 12 3000 3000).bind fun M138 =>
  (mm_pR M138 (some v0) 11 18 (some (mm_n M131))).bind fun M140 =>
  (mm_na M140 12 3000 3000).bind fun M147 =>
  (mm_pR M147 (some v0) 11 19 (some (mm_n M140))).bind fun M149 =>
  (mm_na M149 12 3000 3000).bind fun M156 =>
  (mm_pR M156 (some v0) 11 20 (some (mm_n M149))).bind fun M158 =>
  (mm_na M158 12 3000 3000).bind fun M165 =>
  (mm_pR M165 (some v0) 11 21 (some (mm_n M158))).bind fun M167 =>
  (mm_na M167 12 3000 3000).bind fun M174 =>
  (mm_pR M174 (some v0) 11 22 (some (mm_n M167))).bind fun M176 =>
  (mm_na M176 12 3000 3000).bind fun M183 =>
  (mm_pR M183 (some v0) 11 23 (some (mm_n M176))).bind fun M185 =>
  (mm_na M185 12 3000 3000).bind fun M192 =>
  (mm_pR M192 (some v0) 11 24 (some (mm_n M185))).bind fun M194 =>
  (mm_na M194 12 3000 3000).bind fun M201 =>
  (mm_pR M201 (some v0) 11 25 (some (mm_n M194))).bind fun M203 =>
  (mm_na M203 12 3000 3000).bind fun M210 =>
  (mm_pR M210 (some v0) 11 26 (some (mm_n M203))).bind fun M212 =>
  (mm_na M212 12 3000 3000).bind fun M219 =>
  (mm_pR M219 (some v0) 11 27 (some (mm_n M212))).bind fun M221 =>
  (mm_na M221 12 480 480).bind fun M228 =>
  (mm_pR M228 (some v0) 11 34 (some (mm_n M221))).bind fun M230 =>
  (mm_na M230 12 480 480).bind fun M237 =>
  (mm_pR M237 (some v0) 11 35 (some (mm_n M230))).bind fun M239 =>
  (mm_na M239 12 81 81).bind fun M245 =>
  (mm_pR M245 (some v0) 11 36 (some (mm_n M239))).bind fun M247 =>
  (mm_na M247 13 8 8).bind fun M253 =>
  (mm_pR M253 (some v0) 11 38 (some (mm_n M247))).bind fun M255 =>
  (mm_pZ M255 (some v0) 11 43 1).bind fun M260 =>
  (mm_na M260 14 120 120).bind fun M266 =>
  (mm_pR M266 (some v0) 11 44 (some (mm_n M260))).bind fun M268 =>
  (mm_na M268 12 120 120).bind fun M274 =>
  (mm_pR M274 (some v0) 11 46 (some (mm_n M268))).bind fun M276 =>
  (mm_na M276 12 2400 2400).bind fun M283 =>
  (mm_pR M283 (some v0) 11 47 (some (mm_n M276))).bind fun M285 =>
  (mm_fR M285 (some v0) 11 5).bind fun x289 =>
  (mm_tI M285 x289 0 200).bind fun M296 =>
  (mm_fR M296 (some v0) 11 5).bind fun x298 =>
  (mm_tI M296 x298 1 1000).bind fun M305 =>
  (mm_fR M305 (some v0) 11 5).bind fun x307 =>
  (mm_tI M305 x307 2 2000).bind fun M314 =>
  (mm_fR M314 (some v0) 11 5).bind fun x316 =>
  (mm_tI M314 x316 3 3000).bind fun M323 =>
  f_X10_init_326w M323 v0 0
set_option maxRecDepth 20000 in
theorem w_X10_init_0 {g : mm_c} (C : mm_ok g cX10_init "LessonCardsModel" none "<init>" 2 1 20 31 49781) {M : mm_M} {v0 : Nat} {res : mm_M} (hf : f_X10_init_0 M v0 = some res) (ko : (fun z => mm_q g 31 49781 none z) res) : mm_X g 0 0 M 0 [(0, mm_r (some v0))] [] := by
  unfold f_X10_init_0 at hf
  refine xr_aload_n 1 0 C dX10_init_0 rfl rfl rfl ?_
  refine xr_oinit 4 C wd_934 wd_72 wd_73 ⟨Nat.le_of_ble_eq_true rfl, Nat.le_of_ble_eq_true rfl⟩ (Nat.le_of_ble_eq_true rfl) dX10_init_1 rfl ?_
  refine xr_aload_n 5 0 C dX10_init_4 rfl rfl rfl ?_
  refine xr_bipush 7 C (v := 120) dX10_init_5 (by decide) rfl ?_
  obtain ⟨M7, h7, hf⟩ := mm_bd_e hf
  refine xr_newa 9 C (at_ := .int) (lim := 120) (by decide) (by decide) wd_88 h7 dX10_init_7 ⟨(Nat.le_of_ble_eq_true rfl), (Nat.le_of_ble_eq_true rfl)⟩ rfl ?_
  obtain ⟨M9, h9, hf⟩ := mm_bd_e hf
  refine xr_putR 12 C cf_X10_9 (fun _ => ⟨rfl, co_11_0⟩) h9 dX10_init_9 rfl ?_
  refine xr_aload_n 13 0 C dX10_init_12 rfl rfl rfl ?_
  refine xr_sipush 16 C (v := 480) dX10_init_13 (by decide) rfl ?_
  obtain ⟨M16, h16, hf⟩ := mm_bd_e hf
  refine xr_newa 18 C (at_ := .int) (lim := 480) (by decide) (by decide) wd_88 h16 dX10_init_16 ⟨(Nat.le_of_ble_eq_true rfl), (Nat.le_of_ble_eq_true rfl)⟩ rfl ?_
  obtain ⟨M18, h18, hf⟩ := mm_bd_e hf
  refine xr_putR 21 C cf_X10_13 (fun _ => ⟨rfl, co_11_1⟩) h18 dX10_init_18 rfl ?_
  refine xr_aload_n 22 0 C dX10_init_21 rfl rfl rfl ?_
  refine xr_bipush 24 C (v := 120) dX10_init_22 (by decide) rfl ?_
  obtain ⟨M24, h24, hf⟩ := mm_bd_e hf
  refine xr_newa 26 C (at_ := .int) (lim := 120) (by decide) (by decide) wd_88 h24 dX10_init_24 ⟨(Nat.le_of_ble_eq_true rfl), (Nat.le_of_ble_eq_true rfl)⟩ rfl ?_
  obtain ⟨M26, h26, hf⟩ := mm_bd_e hf
  refine xr_putR 29 C cf_X10_16 (fun _ => ⟨rfl, co_11_2⟩) h26 dX10_init_26 rfl ?_
  refine xr_aload_n 30 0 C dX10_init_29 rfl rfl rfl ?_
  refine xr_iconst 31 C (v := 4) dX10_init_30 (by decide) rfl ?_
  obtain ⟨M31, h31, hf⟩ := mm_bd_e hf
  refine xr_newa 33 C (at_ := .int) (lim := 4) (by decide) (by decide) wd_88 h31 dX10_init_31 ⟨(Nat.le_of_ble_eq_true rfl), (Nat.le_of_ble_eq_true rfl)⟩ rfl ?_
  obtain ⟨M33, h33, hf⟩ := mm_bd_e hf
  refine xr_putR 36 C cf_X10_19 (fun _ => ⟨rfl, co_11_5⟩) h33 dX10_init_33 rfl ?_
  refine xr_aload_n 37 0 C dX10_init_36 rfl rfl rfl ?_
  refine xr_bipush 39 C (v := 60) dX10_init_37 (by decide) rfl ?_
  obtain ⟨M39, h39, hf⟩ := mm_bd_e hf
  refine xr_putI 42 C cf_X10_22 (fun h => by cases h) h39 dX10_init_39 rfl ?_
  refine xr_aload_n 43 0 C dX10_init_42 rfl rfl rfl ?_
  refine xr_bipush 45 C (v := 10) dX10_init_43 (by decide) rfl ?_
  obtain ⟨M45, h45, hf⟩ := mm_bd_e hf
  refine xr_putI 48 C cf_X10_26 (fun h => by cases h) h45 dX10_init_45 rfl ?_
  refine xr_aload_n 49 0 C dX10_init_48 rfl rfl rfl ?_
  refine xr_iconst 50 C (v := 4) dX10_init_49 (by decide) rfl ?_
  obtain ⟨M50, h50, hf⟩ := mm_bd_e hf
  refine xr_newa 52 C (at_ := .int) (lim := 4) (by decide) (by decide) wd_88 h50 dX10_init_50 ⟨(Nat.le_of_ble_eq_true rfl), (Nat.le_of_ble_eq_true rfl)⟩ rfl ?_
  obtain ⟨M52, h52, hf⟩ := mm_bd_e hf
  refine xr_putR 55 C cf_X10_29 (fun _ => ⟨rfl, co_11_8⟩) h52 dX10_init_52 rfl ?_
  refine xr_aload_n 56 0 C dX10_init_55 rfl rfl rfl ?_
  refine xr_sipush 59 C (v := 1920) dX10_init_56 (by decide) rfl ?_
  obtain ⟨M59, h59, hf⟩ := mm_bd_e hf
  refine xr_newa 61 C (at_ := .int) (lim := 1920) (by decide) (by decide) wd_88 h59 dX10_init_59 ⟨(Nat.le_of_ble_eq_true rfl), (Nat.le_of_ble_eq_true rfl)⟩ rfl ?_
  obtain ⟨M61, h61, hf⟩ := mm_bd_e hf
  refine xr_putR 64 C cf_X10_32 (fun _ => ⟨rfl, co_11_9⟩) h61 dX10_init_61 rfl ?_
  refine xr_aload_n 65 0 C dX10_init_64 rfl rfl rfl ?_
  refine xr_iconst 66 C (v := 4) dX10_init_65 (by decide) rfl ?_
  obtain ⟨M66, h66, hf⟩ := mm_bd_e hf
  refine xr_newa 68 C (at_ := .int) (lim := 4) (by decide) (by decide) wd_88 h66 dX10_init_66 ⟨(Nat.le_of_ble_eq_true rfl), (Nat.le_of_ble_eq_true rfl)⟩ rfl ?_
  obtain ⟨M68, h68, hf⟩ := mm_bd_e hf
  refine xr_putR 71 C cf_X10_35 (fun _ => ⟨rfl, co_11_10⟩) h68 dX10_init_68 rfl ?_
  refine xr_aload_n 72 0 C dX10_init_71 rfl rfl rfl ?_
  refine xr_sipush 75 C (v := 1920) dX10_init_72 (by decide) rfl ?_
  obtain ⟨M75, h75, hf⟩ := mm_bd_e hf
  refine xr_newa 77 C (at_ := .int) (lim := 1920) (by decide) (by decide) wd_88 h75 dX10_init_75 ⟨(Nat.le_of_ble_eq_true rfl), (Nat.le_of_ble_eq_true rfl)⟩ rfl ?_
  obtain ⟨M77, h77, hf⟩ := mm_bd_e hf
  refine xr_putR 80 C cf_X10_38 (fun _ => ⟨rfl, co_11_11⟩) h77 dX10_init_77 rfl ?_
  refine xr_aload_n 81 0 C dX10_init_80 rfl rfl rfl ?_
  refine xr_sipush 84 C (v := 1920) dX10_init_81 (by decide) rfl ?_
  obtain ⟨M84, h84, hf⟩ := mm_bd_e hf
  refine xr_newa 86 C (at_ := .boolean) (lim := 1920) (by decide) (by decide) wd_131 h84 dX10_init_84 ⟨(Nat.le_of_ble_eq_true rfl), (Nat.le_of_ble_eq_true rfl)⟩ rfl ?_
  obtain ⟨M86, h86, hf⟩ := mm_bd_e hf
  refine xr_putR 89 C cf_X10_41 (fun _ => ⟨rfl, co_11_12⟩) h86 dX10_init_86 rfl ?_
  refine xr_aload_n 90 0 C dX10_init_89 rfl rfl rfl ?_
  refine xr_sipush 93 C (v := 1920) dX10_init_90 (by decide) rfl ?_
  obtain ⟨M93, h93, hf⟩ := mm_bd_e hf
  refine xr_newa 95 C (at_ := .int) (lim := 1920) (by decide) (by decide) wd_88 h93 dX10_init_93 ⟨(Nat.le_of_ble_eq_true rfl), (Nat.le_of_ble_eq_true rfl)⟩ rfl ?_
  obtain ⟨M95, h95, hf⟩ := mm_bd_e hf
  refine xr_putR 98 C cf_X10_45 (fun _ => ⟨rfl, co_11_13⟩) h95 dX10_init_95 rfl ?_
  refine xr_aload_n 99 0 C dX10_init_98 rfl rfl rfl ?_
  refine xr_sipush 102 C (v := 1920) dX10_init_99 (by decide) rfl ?_
  obtain ⟨M102, h102, hf⟩ := mm_bd_e hf
  refine xr_newa 104 C (at_ := .int) (lim := 1920) (by decide) (by decide) wd_88 h102 dX10_init_102 ⟨(Nat.le_of_ble_eq_true rfl), (Nat.le_of_ble_eq_true rfl)⟩ rfl ?_
  obtain ⟨M104, h104, hf⟩ := mm_bd_e hf
  refine xr_putR 107 C cf_X10_48 (fun _ => ⟨rfl, co_11_14⟩) h104 dX10_init_104 rfl ?_
  refine xr_aload_n 108 0 C dX10_init_107 rfl rfl rfl ?_
  refine xr_sipush 111 C (v := 1920) dX10_init_108 (by decide) rfl ?_
  obtain ⟨M111, h111, hf⟩ := mm_bd_e hf
  refine xr_newa 113 C (at_ := .int) (lim := 1920) (by decide) (by decide) wd_88 h111 dX10_init_111 ⟨(Nat.le_of_ble_eq_true rfl), (Nat.le_of_ble_eq_true rfl)⟩ rfl ?_
  obtain ⟨M113, h113, hf⟩ := mm_bd_e hf
  refine xr_putR 116 C cf_X10_51 (fun _ => ⟨rfl, co_11_15⟩) h113 dX10_init_113 rfl ?_
  refine xr_aload_n 117 0 C dX10_init_116 rfl rfl rfl ?_
  refine xr_sipush 120 C (v := 1920) dX10_init_117 (by decide) rfl ?_
  obtain ⟨M120, h120, hf⟩ := mm_bd_e hf
  refine xr_newa 122 C (at_ := .int) (lim := 1920) (by decide) (by decide) wd_88 h120 dX10_init_120 ⟨(Nat.le_of_ble_eq_true rfl), (Nat.le_of_ble_eq_true rfl)⟩ rfl ?_
  obtain ⟨M122, h122, hf⟩ := mm_bd_e hf
  refine xr_putR 125 C cf_X10_54 (fun _ => ⟨rfl, co_11_16⟩) h122 dX10_init_122 rfl ?_
  refine xr_aload_n 126 0 C dX10_init_125 rfl rfl rfl ?_
  refine xr_sipush 129 C (v := 1920) dX10_init_126 (by decide) rfl ?_
  obtain ⟨M129, h129, hf⟩ := mm_bd_e hf
  refine xr_newa 131 C (at_ := .int) (lim := 1920) (by decide) (by decide) wd_88 h129 dX10_init_129 ⟨(Nat.le_of_ble_eq_true rfl), (Nat.le_of_ble_eq_true rfl)⟩ rfl ?_
  obtain ⟨M131, h131, hf⟩ := mm_bd_e hf
  refine xr_putR 134 C cf_X10_57 (fun _ => ⟨rfl, co_11_17⟩) h131 dX10_init_131 rfl ?_
  refine xr_aload_n 135 0 C dX10_init_134 rfl rfl rfl ?_
  refine xr_sipush 138 C (v := 3000) dX10_init_135 (by decide) rfl ?_
  obtain ⟨M138, h138, hf⟩ := mm_bd_e hf
  refine xr_newa 140 C (at_ := .int) (lim := 3000) (by decide) (by decide) wd_88 h138 dX10_init_138 ⟨(Nat.le_of_ble_eq_true rfl), (Nat.le_of_ble_eq_true rfl)⟩ rfl ?_
  obtain ⟨M140, h140, hf⟩ := mm_bd_e hf
  refine xr_putR 143 C cf_X10_60 (fun _ => ⟨rfl, co_11_18⟩) h140 dX10_init_140 rfl ?_
  refine xr_aload_n 144 0 C dX10_init_143 rfl rfl rfl ?_
  refine xr_sipush 147 C (v := 3000) dX10_init_144 (by decide) rfl ?_
  obtain ⟨M147, h147, hf⟩ := mm_bd_e hf
  refine xr_newa 149 C (at_ := .int) (lim := 3000) (by decide) (by decide) wd_88 h147 dX10_init_147 ⟨(Nat.le_of_ble_eq_true rfl), (Nat.le_of_ble_eq_true rfl)⟩ rfl ?_
  obtain ⟨M149, h149, hf⟩ := mm_bd_e hf
  refine xr_putR 152 C cf_X10_63 (fun _ => ⟨rfl, co_11_19⟩) h149 dX10_init_149 rfl ?_
  refine xr_aload_n 153 0 C dX10_init_152 rfl rfl rfl ?_
  refine xr_sipush 156 C (v := 3000) dX10_init_153 (by decide) rfl ?_
  obtain ⟨M156, h156, hf⟩ := mm_bd_e hf
  refine xr_newa 158 C (at_ := .int) (lim := 3000) (by decide) (by decide) wd_88 h156 dX10_init_156 ⟨(Nat.le_of_ble_eq_true rfl), (Nat.le_of_ble_eq_true rfl)⟩ rfl ?_
  obtain ⟨M158, h158, hf⟩ := mm_bd_e hf
  refine xr_putR 161 C cf_X10_66 (fun _ => ⟨rfl, co_11_20⟩) h158 dX10_init_158 rfl ?_
  refine xr_aload_n 162 0 C dX10_init_161 rfl rfl rfl ?_
  refine xr_sipush 165 C (v := 3000) dX10_init_162 (by decide) rfl ?_
  obtain ⟨M165, h165, hf⟩ := mm_bd_e hf
  refine xr_newa 167 C (at_ := .int) (lim := 3000) (by decide) (by decide) wd_88 h165 dX10_init_165 ⟨(Nat.le_of_ble_eq_true rfl), (Nat.le_of_ble_eq_true rfl)⟩ rfl ?_
  obtain ⟨M167, h167, hf⟩ := mm_bd_e hf
  refine xr_putR 170 C cf_X10_69 (fun _ => ⟨rfl, co_11_21⟩) h167 dX10_init_167 rfl ?_
  refine xr_aload_n 171 0 C dX10_init_170 rfl rfl rfl ?_
  refine xr_sipush 174 C (v := 3000) dX10_init_171 (by decide) rfl ?_
  obtain ⟨M174, h174, hf⟩ := mm_bd_e hf
  refine xr_newa 176 C (at_ := .int) (lim := 3000) (by decide) (by decide) wd_88 h174 dX10_init_174 ⟨(Nat.le_of_ble_eq_true rfl), (Nat.le_of_ble_eq_true rfl)⟩ rfl ?_
  obtain ⟨M176, h176, hf⟩ := mm_bd_e hf
  refine xr_putR 179 C cf_X10_72 (fun _ => ⟨rfl, co_11_22⟩) h176 dX10_init_176 rfl ?_
  refine xr_aload_n 180 0 C dX10_init_179 rfl rfl rfl ?_
  refine xr_sipush 183 C (v := 3000) dX10_init_180 (by decide) rfl ?_
  obtain ⟨M183, h183, hf⟩ := mm_bd_e hf
  refine xr_newa 185 C (at_ := .int) (lim := 3000) (by decide) (by decide) wd_88 h183 dX10_init_183 ⟨(Nat.le_of_ble_eq_true rfl), (Nat.le_of_ble_eq_true rfl)⟩ rfl ?_
  obtain ⟨M185, h185, hf⟩ := mm_bd_e hf
  refine xr_putR 188 C cf_X10_75 (fun _ => ⟨rfl, co_11_23⟩) h185 dX10_init_185 rfl ?_
  refine xr_aload_n 189 0 C dX10_init_188 rfl rfl rfl ?_
  refine xr_sipush 192 C (v := 3000) dX10_init_189 (by decide) rfl ?_
  obtain ⟨M192, h192, hf⟩ := mm_bd_e hf
  refine xr_newa 194 C (at_ := .int) (lim := 3000) (by decide) (by decide) wd_88 h192 dX10_init_192 ⟨(Nat.le_of_ble_eq_true rfl), (Nat.le_of_ble_eq_true rfl)⟩ rfl ?_
  obtain ⟨M194, h194, hf⟩ := mm_bd_e hf
  refine xr_putR 197 C cf_X10_78 (fun _ => ⟨rfl, co_11_24⟩) h194 dX10_init_194 rfl ?_
  refine xr_aload_n 198 0 C dX10_init_197 rfl rfl rfl ?_
  refine xr_sipush 201 C (v := 3000) dX10_init_198 (by decide) rfl ?_
  obtain ⟨M201, h201, hf⟩ := mm_bd_e hf
  refine xr_newa 203 C (at_ := .int) (lim := 3000) (by decide) (by decide) wd_88 h201 dX10_init_201 ⟨(Nat.le_of_ble_eq_true rfl), (Nat.le_of_ble_eq_true rfl)⟩ rfl ?_
  obtain ⟨M203, h203, hf⟩ := mm_bd_e hf
  refine xr_putR 206 C cf_X10_81 (fun _ => ⟨rfl, co_11_25⟩) h203 dX10_init_203 rfl ?_
  refine xr_aload_n 207 0 C dX10_init_206 rfl rfl rfl ?_
  refine xr_sipush 210 C (v := 3000) dX10_init_207 (by decide) rfl ?_
  obtain ⟨M210, h210, hf⟩ := mm_bd_e hf
  refine xr_newa 212 C (at_ := .int) (lim := 3000) (by decide) (by decide) wd_88 h210 dX10_init_210 ⟨(Nat.le_of_ble_eq_true rfl), (Nat.le_of_ble_eq_true rfl)⟩ rfl ?_
  obtain ⟨M212, h212, hf⟩ := mm_bd_e hf
  refine xr_putR 215 C cf_X10_84 (fun _ => ⟨rfl, co_11_26⟩) h212 dX10_init_212 rfl ?_
  refine xr_aload_n 216 0 C dX10_init_215 rfl rfl rfl ?_
  refine xr_sipush 219 C (v := 3000) dX10_init_216 (by decide) rfl ?_
  obtain ⟨M219, h219, hf⟩ := mm_bd_e hf
  refine xr_newa 221 C (at_ := .int) (lim := 3000) (by decide) (by decide) wd_88 h219 dX10_init_219 ⟨(Nat.le_of_ble_eq_true rfl), (Nat.le_of_ble_eq_true rfl)⟩ rfl ?_
  obtain ⟨M221, h221, hf⟩ := mm_bd_e hf
  refine xr_putR 224 C cf_X10_87 (fun _ => ⟨rfl, co_11_27⟩) h221 dX10_init_221 rfl ?_
  refine xr_aload_n 225 0 C dX10_init_224 rfl rfl rfl ?_
  refine xr_sipush 228 C (v := 480) dX10_init_225 (by decide) rfl ?_
  obtain ⟨M228, h228, hf⟩ := mm_bd_e hf
  refine xr_newa 230 C (at_ := .int) (lim := 480) (by decide) (by decide) wd_88 h228 dX10_init_228 ⟨(Nat.le_of_ble_eq_true rfl), (Nat.le_of_ble_eq_true rfl)⟩ rfl ?_
  obtain ⟨M230, h230, hf⟩ := mm_bd_e hf
  refine xr_putR 233 C cf_X10_90 (fun _ => ⟨rfl, co_11_34⟩) h230 dX10_init_230 rfl ?_
  refine xr_aload_n 234 0 C dX10_init_233 rfl rfl rfl ?_
  refine xr_sipush 237 C (v := 480) dX10_init_234 (by decide) rfl ?_
  obtain ⟨M237, h237, hf⟩ := mm_bd_e hf
  refine xr_newa 239 C (at_ := .int) (lim := 480) (by decide) (by decide) wd_88 h237 dX10_init_237 ⟨(Nat.le_of_ble_eq_true rfl), (Nat.le_of_ble_eq_true rfl)⟩ rfl ?_
  obtain ⟨M239, h239, hf⟩ := mm_bd_e hf
  refine xr_putR 242 C cf_X10_93 (fun _ => ⟨rfl, co_11_35⟩) h239 dX10_init_239 rfl ?_
  refine xr_aload_n 243 0 C dX10_init_242 rfl rfl rfl ?_
  refine xr_bipush 245 C (v := 81) dX10_init_243 (by decide) rfl ?_
  obtain ⟨M245, h245, hf⟩ := mm_bd_e hf
  refine xr_newa 247 C (at_ := .int) (lim := 81) (by decide) (by decide) wd_88 h245 dX10_init_245 ⟨(Nat.le_of_ble_eq_true rfl), (Nat.le_of_ble_eq_true rfl)⟩ rfl ?_
  obtain ⟨M247, h247, hf⟩ := mm_bd_e hf
  refine xr_putR 250 C cf_X10_96 (fun _ => ⟨rfl, co_11_36⟩) h247 dX10_init_247 rfl ?_
  refine xr_aload_n 251 0 C dX10_init_250 rfl rfl rfl ?_
  refine xr_bipush 253 C (v := 8) dX10_init_251 (by decide) rfl ?_
  obtain ⟨M253, h253, hf⟩ := mm_bd_e hf
  refine xr_newa 255 C (at_ := .long) (lim := 8) (by decide) (by decide) wd_208 h253 dX10_init_253 ⟨(Nat.le_of_ble_eq_true rfl), (Nat.le_of_ble_eq_true rfl)⟩ rfl ?_
  obtain ⟨M255, h255, hf⟩ := mm_bd_e hf
  refine xr_putR 258 C cf_X10_99 (fun _ => ⟨rfl, co_11_38⟩) h255 dX10_init_255 rfl ?_
  refine xr_aload_n 259 0 C dX10_init_258 rfl rfl rfl ?_
  refine xr_iconst 260 C (v := 1) dX10_init_259 (by decide) rfl ?_
  obtain ⟨M260, h260, hf⟩ := mm_bd_e hf
  refine xr_putZ 263 C cf_X10_103 (fun h => by cases h) h260 dX10_init_260 rfl ?_
  refine xr_aload_n 264 0 C dX10_init_263 rfl rfl rfl ?_
  refine xr_bipush 266 C (v := 120) dX10_init_264 (by decide) rfl ?_
  obtain ⟨M266, h266, hf⟩ := mm_bd_e hf
  refine xr_newa 268 C (at_ := .boolean) (lim := 120) (by decide) (by decide) wd_131 h266 dX10_init_266 ⟨(Nat.le_of_ble_eq_true rfl), (Nat.le_of_ble_eq_true rfl)⟩ rfl ?_
  obtain ⟨M268, h268, hf⟩ := mm_bd_e hf
  refine xr_putR 271 C cf_X10_107 (fun _ => ⟨rfl, co_11_44⟩) h268 dX10_init_268 rfl ?_
  refine xr_aload_n 272 0 C dX10_init_271 rfl rfl rfl ?_
  refine xr_bipush 274 C (v := 120) dX10_init_272 (by decide) rfl ?_
  obtain ⟨M274, h274, hf⟩ := mm_bd_e hf
  refine xr_newa 276 C (at_ := .int) (lim := 120) (by decide) (by decide) wd_88 h274 dX10_init_274 ⟨(Nat.le_of_ble_eq_true rfl), (Nat.le_of_ble_eq_true rfl)⟩ rfl ?_
  obtain ⟨M276, h276, hf⟩ := mm_bd_e hf
  refine xr_putR 279 C cf_X10_110 (fun _ => ⟨rfl, co_11_46⟩) h276 dX10_init_276 rfl ?_
  refine xr_aload_n 280 0 C dX10_init_279 rfl rfl rfl ?_
  refine xr_sipush 283 C (v := 2400) dX10_init_280 (by decide) rfl ?_
  obtain ⟨M283, h283, hf⟩ := mm_bd_e hf
  refine xr_newa 285 C (at_ := .int) (lim := 2400) (by decide) (by decide) wd_88 h283 dX10_init_283 ⟨(Nat.le_of_ble_eq_true rfl), (Nat.le_of_ble_eq_true rfl)⟩ rfl ?_
  obtain ⟨M285, h285, hf⟩ := mm_bd_e hf
  refine xr_putR 288 C cf_X10_113 (fun _ => ⟨rfl, co_11_47⟩) h285 dX10_init_285 rfl ?_
  refine xr_aload_n 289 0 C dX10_init_288 rfl rfl rfl ?_
  obtain ⟨x289, h289, hf⟩ := mm_bd_e hf
  refine xr_getR 292 C cf_X10_19 rfl h289 dX10_init_289 rfl ?_
  refine xr_iconst 293 C (v := 0) dX10_init_292 (by decide) rfl ?_
  refine xr_sipush 296 C (v := 200) dX10_init_293 (by decide) rfl ?_
  obtain ⟨M296, h296, hf⟩ := mm_bd_e hf
  refine xr_astI 297 C h296 dX10_init_296 rfl ?_
  refine xr_aload_n 298 0 C dX10_init_297 rfl rfl rfl ?_
  obtain ⟨x298, h298, hf⟩ := mm_bd_e hf
  refine xr_getR 301 C cf_X10_19 rfl h298 dX10_init_298 rfl ?_
  refine xr_iconst 302 C (v := 1) dX10_init_301 (by decide) rfl ?_
  refine xr_sipush 305 C (v := 1000) dX10_init_302 (by decide) rfl ?_
  obtain ⟨M305, h305, hf⟩ := mm_bd_e hf
  refine xr_astI 306 C h305 dX10_init_305 rfl ?_
  refine xr_aload_n 307 0 C dX10_init_306 rfl rfl rfl ?_
  obtain ⟨x307, h307, hf⟩ := mm_bd_e hf
  refine xr_getR 310 C cf_X10_19 rfl h307 dX10_init_307 rfl ?_
  refine xr_iconst 311 C (v := 2) dX10_init_310 (by decide) rfl ?_
  refine xr_sipush 314 C (v := 2000) dX10_init_311 (by decide) rfl ?_
  obtain ⟨M314, h314, hf⟩ := mm_bd_e hf
  refine xr_astI 315 C h314 dX10_init_314 rfl ?_
  refine xr_aload_n 316 0 C dX10_init_315 rfl rfl rfl ?_
  obtain ⟨x316, h316, hf⟩ := mm_bd_e hf
  refine xr_getR 319 C cf_X10_19 rfl h316 dX10_init_316 rfl ?_
  refine xr_iconst 320 C (v := 3) dX10_init_319 (by decide) rfl ?_
  refine xr_sipush 323 C (v := 3000) dX10_init_320 (by decide) rfl ?_
  obtain ⟨M323, h323, hf⟩ := mm_bd_e hf
  refine xr_astI 324 C h323 dX10_init_323 rfl ?_
  refine xr_iconst 325 C (v := 0) dX10_init_324 (by decide) rfl ?_
  refine xr_istore_n 326 C dX10_init_325 rfl (by decide) rfl [(1, mm_i 0), (0, mm_r (some v0))] rfl ?_
  refine xr_sub [1, 0] (lv2 := [(0, mm_r (some v0)), (1, mm_i 0)]) rfl ?_
  exact l_X10_init_326 C hf ko
noncomputable def f_X10_init (M : mm_M) (v0 : Nat) : Option (mm_M) := f_X10_init_0 M v0
theorem c_X10_init (l : Launch) (G : va_G) (cy : Nat → ClassId) {M : mm_M} {v0 : Nat} {M1 : mm_M} (hf : f_X10_init M v0 = some M1) : mm_Met l yX10_init cX10_init 2 none 1 20 31 49781 G cy [mm_r (some v0)] M none M1 :=
  mm_enter (by decide) (Nat.le_of_ble_eq_true rfl) (fun p e R s m args below meth c Q C hq => xr_sub [0] (lv2 := [(0, mm_r (some v0))]) rfl (w_X10_init_0 C hf hq))
noncomputable def f_X10_within_15 (M : mm_M) (s0 : Int32) : Option (Int32) :=
  mm_gd (s0 = 0 ∨ s0 = 1) <|
  some s0
set_option maxRecDepth 20000 in
theorem w_X10_within_15 {g : mm_c} (C : mm_ok g cX10_within "LessonCardsModel" (some .boolean) "within" 3 0 0 0 0) {M : mm_M} {s0 : Int32} {res : Int32} (hf : f_X10_within_15 M s0 = some res) (ko : (fun z => mm_q g 0 0 (some (mm_i z)) M) res) : mm_X g 0 0 M 15 [] [mm_i s0] := by
  unfold f_X10_within_15 at hf
  obtain ⟨hz, hf⟩ := mm_gd_e hf
  obtain rfl := Option.some.inj hf
  exact xr_zret C hz ko ⟨(Nat.le_of_ble_eq_true rfl), (Nat.le_of_ble_eq_true rfl)⟩ dX10_within_15
noncomputable def f_X10_within_10 (M : mm_M) : Option (Int32) :=
  f_X10_within_15 M 1
set_option maxRecDepth 20000 in
theorem w_X10_within_10 {g : mm_c} (C : mm_ok g cX10_within "LessonCardsModel" (some .boolean) "within" 3 0 0 0 0) {M : mm_M} {res : Int32} (hf : f_X10_within_10 M = some res) (ko : (fun z => mm_q g 0 0 (some (mm_i z)) M) res) : mm_X g 0 0 M 10 [] [] := by
  unfold f_X10_within_10 at hf
  refine xr_iconst 11 C (v := 1) dX10_within_10 (by decide) rfl ?_
  refine xr_goto 15 C dX10_within_11 (by decide) ?_
  exact w_X10_within_15 C hf ko
noncomputable def f_X10_within_14 (M : mm_M) : Option (Int32) :=
  f_X10_within_15 M 0
set_option maxRecDepth 20000 in
theorem w_X10_within_14 {g : mm_c} (C : mm_ok g cX10_within "LessonCardsModel" (some .boolean) "within" 3 0 0 0 0) {M : mm_M} {res : Int32} (hf : f_X10_within_14 M = some res) (ko : (fun z => mm_q g 0 0 (some (mm_i z)) M) res) : mm_X g 0 0 M 14 [] [] := by
  unfold f_X10_within_14 at hf
  refine xr_iconst 15 C (v := 0) dX10_within_14 (by decide) rfl ?_
  exact w_X10_within_15 C hf ko
noncomputable def f_X10_within_5 (M : mm_M) (v0 : Int32) (v2 : Int32) : Option (Int32) :=
  if v2 < v0 then f_X10_within_14 M else f_X10_within_10 M
set_option maxRecDepth 20000 in
theorem w_X10_within_5 {g : mm_c} (C : mm_ok g cX10_within "LessonCardsModel" (some .boolean) "within" 3 0 0 0 0) {M : mm_M} {v0 : Int32} {v2 : Int32} {res : Int32} (hf : f_X10_within_5 M v0 v2 = some res) (ko : (fun z => mm_q g 0 0 (some (mm_i z)) M) res) : mm_X g 0 0 M 5 [(0, mm_i v0), (2, mm_i v2)] [] := by
  unfold f_X10_within_5 at hf
  refine xr_iload_n 6 0 C dX10_within_5 rfl rfl rfl ?_
  refine xr_iload_n 7 1 C dX10_within_6 rfl rfl rfl ?_
  refine xr_icmp_gt 14 10 C dX10_within_7 (by decide) rfl (fun hc => ?_) (fun hc => ?_)
  · replace hf := (if_pos hc).symm.trans hf
    refine xr_sub [] (lv2 := []) rfl ?_
    exact w_X10_within_14 C hf ko
  · replace hf := (if_neg hc).symm.trans hf
    refine xr_sub [] (lv2 := []) rfl ?_
    exact w_X10_within_10 C hf ko
noncomputable def f_X10_within_0 (M : mm_M) (v0 : Int32) (v1 : Int32) (v2 : Int32) : Option (Int32) :=
  if v0 < v1 then f_X10_within_14 M else f_X10_within_5 M v0 v2
set_option maxRecDepth 20000 in
theorem w_X10_within_0 {g : mm_c} (C : mm_ok g cX10_within "LessonCardsModel" (some .boolean) "within" 3 0 0 0 0) {M : mm_M} {v0 : Int32} {v1 : Int32} {v2 : Int32} {res : Int32} (hf : f_X10_within_0 M v0 v1 v2 = some res) (ko : (fun z => mm_q g 0 0 (some (mm_i z)) M) res) : mm_X g 0 0 M 0 [(0, mm_i v0), (1, mm_i v1), (2, mm_i v2)] [] := by
  unfold f_X10_within_0 at hf
  refine xr_iload_n 1 0 C dX10_within_0 rfl rfl rfl ?_
  refine xr_iload_n 2 1 C dX10_within_1 rfl rfl rfl ?_
  refine xr_icmp_lt 14 5 C dX10_within_2 (by decide) rfl (fun hc => ?_) (fun hc => ?_)
  · replace hf := (if_pos hc).symm.trans hf
    refine xr_sub [] (lv2 := []) rfl ?_
    exact w_X10_within_14 C hf ko
  · replace hf := (if_neg hc).symm.trans hf
    refine xr_sub [0, 2] (lv2 := [(0, mm_i v0), (2, mm_i v2)]) rfl ?_
    exact w_X10_within_5 C hf ko
noncomputable def f_X10_within (M : mm_M) (v0 : Int32) (v1 : Int32) (v2 : Int32) : Option (Int32) := f_X10_within_0 M v0 v1 v2
theorem c_X10_within (l : Launch) (G : va_G) (cy : Nat → ClassId) {M : mm_M} {v0 : Int32} {v1 : Int32} {v2 : Int32} {r : Int32} (hf : f_X10_within M v0 v1 v2 = some r) : mm_Met l yX10_within cX10_within 3 (some .boolean) 0 0 0 0 G cy [mm_i v0, mm_i v1, mm_i v2] M (some (mm_i r)) M :=
  mm_enter (by decide) (Nat.le_of_ble_eq_true rfl) (fun p e R s m args below meth c Q C hq => xr_sub [0, 1, 2] (lv2 := [(0, mm_i v0), (1, mm_i v1), (2, mm_i v2)]) rfl (w_X10_within_0 C hf hq))
noncomputable def f_X10_isPupil_14 (M : mm_M) (s0 : Int32) : Option (Int32) :=
  mm_gd (s0 = 0 ∨ s0 = 1) <|
  some s0
set_option maxRecDepth 20000 in
theorem w_X10_isPupil_14 {g : mm_c} (C : mm_ok g cX10_isPupil "LessonCardsModel" (some .boolean) "isPupil" 1 0 0 0 0) {M : mm_M} {s0 : Int32} {res : Int32} (hf : f_X10_isPupil_14 M s0 = some res) (ko : (fun z => mm_q g 0 0 (some (mm_i z)) M) res) : mm_X g 0 0 M 14 [] [mm_i s0] := by
  unfold f_X10_isPupil_14 at hf
  obtain ⟨hz, hf⟩ := mm_gd_e hf
  obtain rfl := Option.some.inj hf
  exact xr_zret C hz ko ⟨(Nat.le_of_ble_eq_true rfl), (Nat.le_of_ble_eq_true rfl)⟩ dX10_isPupil_14
noncomputable def f_X10_isPupil_9 (M : mm_M) : Option (Int32) :=
  f_X10_isPupil_14 M 1
set_option maxRecDepth 20000 in
theorem w_X10_isPupil_9 {g : mm_c} (C : mm_ok g cX10_isPupil "LessonCardsModel" (some .boolean) "isPupil" 1 0 0 0 0) {M : mm_M} {res : Int32} (hf : f_X10_isPupil_9 M = some res) (ko : (fun z => mm_q g 0 0 (some (mm_i z)) M) res) : mm_X g 0 0 M 9 [] [] := by
  unfold f_X10_isPupil_9 at hf
  refine xr_iconst 10 C (v := 1) dX10_isPupil_9 (by decide) rfl ?_
  refine xr_goto 14 C dX10_isPupil_10 (by decide) ?_
  exact w_X10_isPupil_14 C hf ko
noncomputable def f_X10_isPupil_13 (M : mm_M) : Option (Int32) :=
  f_X10_isPupil_14 M 0
set_option maxRecDepth 20000 in
theorem w_X10_isPupil_13 {g : mm_c} (C : mm_ok g cX10_isPupil "LessonCardsModel" (some .boolean) "isPupil" 1 0 0 0 0) {M : mm_M} {res : Int32} (hf : f_X10_isPupil_13 M = some res) (ko : (fun z => mm_q g 0 0 (some (mm_i z)) M) res) : mm_X g 0 0 M 13 [] [] := by
  unfold f_X10_isPupil_13 at hf
  refine xr_iconst 14 C (v := 0) dX10_isPupil_13 (by decide) rfl ?_
  exact w_X10_isPupil_14 C hf ko
noncomputable def f_X10_isPupil_4 (M : mm_M) (v0 : Int32) : Option (Int32) :=
  if 4 ≤ v0 then f_X10_isPupil_13 M else f_X10_isPupil_9 M
set_option maxRecDepth 20000 in
theorem w_X10_isPupil_4 {g : mm_c} (C : mm_ok g cX10_isPupil "LessonCardsModel" (some .boolean) "isPupil" 1 0 0 0 0) {M : mm_M} {v0 : Int32} {res : Int32} (hf : f_X10_isPupil_4 M v0 = some res) (ko : (fun z => mm_q g 0 0 (some (mm_i z)) M) res) : mm_X g 0 0 M 4 [(0, mm_i v0)] [] := by
  unfold f_X10_isPupil_4 at hf
  refine xr_iload_n 5 0 C dX10_isPupil_4 rfl rfl rfl ?_
  refine xr_iconst 6 C (v := 4) dX10_isPupil_5 (by decide) rfl ?_
  refine xr_icmp_ge 13 9 C dX10_isPupil_6 (by decide) rfl (fun hc => ?_) (fun hc => ?_)
  · replace hf := (if_pos hc).symm.trans hf
    refine xr_sub [] (lv2 := []) rfl ?_
    exact w_X10_isPupil_13 C hf ko
  · replace hf := (if_neg hc).symm.trans hf
    refine xr_sub [] (lv2 := []) rfl ?_
    exact w_X10_isPupil_9 C hf ko
noncomputable def f_X10_isPupil_0 (M : mm_M) (v0 : Int32) : Option (Int32) :=
  if v0 < 0 then f_X10_isPupil_13 M else f_X10_isPupil_4 M v0
set_option maxRecDepth 20000 in
theorem w_X10_isPupil_0 {g : mm_c} (C : mm_ok g cX10_isPupil "LessonCardsModel" (some .boolean) "isPupil" 1 0 0 0 0) {M : mm_M} {v0 : Int32} {res : Int32} (hf : f_X10_isPupil_0 M v0 = some res) (ko : (fun z => mm_q g 0 0 (some (mm_i z)) M) res) : mm_X g 0 0 M 0 [(0, mm_i v0)] [] := by
  unfold f_X10_isPupil_0 at hf
  refine xr_iload_n 1 0 C dX10_isPupil_0 rfl rfl rfl ?_
  refine xr_if_lt 13 4 C dX10_isPupil_1 (by decide) rfl (fun hc => ?_) (fun hc => ?_)
  · replace hf := (if_pos hc).symm.trans hf
    refine xr_sub [] (lv2 := []) rfl ?_
    exact w_X10_isPupil_13 C hf ko
  · replace hf := (if_neg hc).symm.trans hf
    exact w_X10_isPupil_4 C hf ko
noncomputable def f_X10_isPupil (M : mm_M) (v0 : Int32) : Option (Int32) := f_X10_isPupil_0 M v0
theorem c_X10_isPupil (l : Launch) (G : va_G) (cy : Nat → ClassId) {M : mm_M} {v0 : Int32} {r : Int32} (hf : f_X10_isPupil M v0 = some r) : mm_Met l yX10_isPupil cX10_isPupil 1 (some .boolean) 0 0 0 0 G cy [mm_i v0] M (some (mm_i r)) M :=
  mm_enter (by decide) (Nat.le_of_ble_eq_true rfl) (fun p e R s m args below meth c Q C hq => xr_sub [0] (lv2 := [(0, mm_i v0)]) rfl (w_X10_isPupil_0 C hf hq))
noncomputable def f_X10_isCard_17 (M : mm_M) (s0 : Int32) : Option (Int32) :=
  mm_gd (s0 = 0 ∨ s0 = 1) <|
  some s0
set_option maxRecDepth 20000 in
theorem w_X10_isCard_17 {g : mm_c} (C : mm_ok g cX10_isCard "LessonCardsModel" (some .boolean) "isCard" 2 0 0 0 0) {M : mm_M} {s0 : Int32} {res : Int32} (hf : f_X10_isCard_17 M s0 = some res) (ko : (fun z => mm_q g 0 0 (some (mm_i z)) M) res) : mm_X g 0 0 M 17 [] [mm_i s0] := by
  unfold f_X10_isCard_17 at hf
  obtain ⟨hz, hf⟩ := mm_gd_e hf
  obtain rfl := Option.some.inj hf
  exact xr_zret C hz ko ⟨(Nat.le_of_ble_eq_true rfl), (Nat.le_of_ble_eq_true rfl)⟩ dX10_isCard_17
noncomputable def f_X10_isCard_12 (M : mm_M) : Option (Int32) :=
  f_X10_isCard_17 M 1
set_option maxRecDepth 20000 in
theorem w_X10_isCard_12 {g : mm_c} (C : mm_ok g cX10_isCard "LessonCardsModel" (some .boolean) "isCard" 2 0 0 0 0) {M : mm_M} {res : Int32} (hf : f_X10_isCard_12 M = some res) (ko : (fun z => mm_q g 0 0 (some (mm_i z)) M) res) : mm_X g 0 0 M 12 [] [] := by
  unfold f_X10_isCard_12 at hf
  refine xr_iconst 13 C (v := 1) dX10_isCard_12 (by decide) rfl ?_
  refine xr_goto 17 C dX10_isCard_13 (by decide) ?_
  exact w_X10_isCard_17 C hf ko
noncomputable def f_X10_isCard_16 (M : mm_M) : Option (Int32) :=
  f_X10_isCard_17 M 0
set_option maxRecDepth 20000 in
theorem w_X10_isCard_16 {g : mm_c} (C : mm_ok g cX10_isCard "LessonCardsModel" (some .boolean) "isCard" 2 0 0 0 0) {M : mm_M} {res : Int32} (hf : f_X10_isCard_16 M = some res) (ko : (fun z => mm_q g 0 0 (some (mm_i z)) M) res) : mm_X g 0 0 M 16 [] [] := by
  unfold f_X10_isCard_16 at hf
  refine xr_iconst 17 C (v := 0) dX10_isCard_16 (by decide) rfl ?_
  exact w_X10_isCard_17 C hf ko
noncomputable def f_X10_isCard_4 (M : mm_M) (v0 : Option Nat) (v1 : Int32) : Option (Int32) :=
  (mm_fI M v0 11 3).bind fun x6 =>
  if x6 ≤ v1 then f_X10_isCard_16 M else f_X10_isCard_12 M
set_option maxRecDepth 20000 in
theorem w_X10_isCard_4 {g : mm_c} (C : mm_ok g cX10_isCard "LessonCardsModel" (some .boolean) "isCard" 2 0 0 0 0) {M : mm_M} {v0 : Option Nat} {v1 : Int32} {res : Int32} (hf : f_X10_isCard_4 M v0 v1 = some res) (ko : (fun z => mm_q g 0 0 (some (mm_i z)) M) res) : mm_X g 0 0 M 4 [(0, mm_r v0), (1, mm_i v1)] [] := by
  unfold f_X10_isCard_4 at hf
  refine xr_iload_n 5 1 C dX10_isCard_4 rfl rfl rfl ?_
  refine xr_aload_n 6 0 C dX10_isCard_5 rfl rfl rfl ?_
  obtain ⟨x6, h6, hf⟩ := mm_bd_e hf
  refine xr_getI 9 C cf_X10_116 rfl h6 dX10_isCard_6 rfl ?_
  refine xr_icmp_ge 16 12 C dX10_isCard_9 (by decide) rfl (fun hc => ?_) (fun hc => ?_)
  · replace hf := (if_pos hc).symm.trans hf
    refine xr_sub [] (lv2 := []) rfl ?_
    exact w_X10_isCard_16 C hf ko
  · replace hf := (if_neg hc).symm.trans hf
    refine xr_sub [] (lv2 := []) rfl ?_
    exact w_X10_isCard_12 C hf ko
noncomputable def f_X10_isCard_0 (M : mm_M) (v0 : Option Nat) (v1 : Int32) : Option (Int32) :=
  if v1 < 0 then f_X10_isCard_16 M else f_X10_isCard_4 M v0 v1
set_option maxRecDepth 20000 in
theorem w_X10_isCard_0 {g : mm_c} (C : mm_ok g cX10_isCard "LessonCardsModel" (some .boolean) "isCard" 2 0 0 0 0) {M : mm_M} {v0 : Option Nat} {v1 : Int32} {res : Int32} (hf : f_X10_isCard_0 M v0 v1 = some res) (ko : (fun z => mm_q g 0 0 (some (mm_i z)) M) res) : mm_X g 0 0 M 0 [(0, mm_r v0), (1, mm_i v1)] [] := by
  unfold f_X10_isCard_0 at hf
  refine xr_iload_n 1 1 C dX10_isCard_0 rfl rfl rfl ?_
  refine xr_if_lt 16 4 C dX10_isCard_1 (by decide) rfl (fun hc => ?_) (fun hc => ?_)
  · replace hf := (if_pos hc).symm.trans hf
    refine xr_sub [] (lv2 := []) rfl ?_
    exact w_X10_isCard_16 C hf ko
  · replace hf := (if_neg hc).symm.trans hf
    exact w_X10_isCard_4 C hf ko
noncomputable def f_X10_isCard (M : mm_M) (v0 : Option Nat) (v1 : Int32) : Option (Int32) := f_X10_isCard_0 M v0 v1
theorem c_X10_isCard (l : Launch) (G : va_G) (cy : Nat → ClassId) {M : mm_M} {v0 : Option Nat} {v1 : Int32} {r : Int32} (hf : f_X10_isCard M v0 v1 = some r) : mm_Met l yX10_isCard cX10_isCard 2 (some .boolean) 0 0 0 0 G cy [mm_r v0, mm_i v1] M (some (mm_i r)) M :=
  mm_enter (by decide) (Nat.le_of_ble_eq_true rfl) (fun p e R s m args below meth c Q C hq => xr_sub [0, 1] (lv2 := [(0, mm_r v0), (1, mm_i v1)]) rfl (w_X10_isCard_0 C hf hq))
noncomputable def f_X10_isSide_27 (M : mm_M) (s0 : Int32) : Option (Int32) :=
  mm_gd (s0 = 0 ∨ s0 = 1) <|
  some s0
set_option maxRecDepth 20000 in
theorem w_X10_isSide_27 {g : mm_c} (C : mm_ok g cX10_isSide "LessonCardsModel" (some .boolean) "isSide" 3 1 21 0 0) {M : mm_M} {s0 : Int32} {res : Int32} (hf : f_X10_isSide_27 M s0 = some res) (ko : (fun z => mm_q g 0 0 (some (mm_i z)) M) res) : mm_X g 0 0 M 27 [] [mm_i s0] := by
  unfold f_X10_isSide_27 at hf
  obtain ⟨hz, hf⟩ := mm_gd_e hf
  obtain rfl := Option.some.inj hf
  exact xr_zret C hz ko ⟨(Nat.le_of_ble_eq_true rfl), (Nat.le_of_ble_eq_true rfl)⟩ dX10_isSide_27
noncomputable def f_X10_isSide_22 (M : mm_M) : Option (Int32) :=
  f_X10_isSide_27 M 1
set_option maxRecDepth 20000 in
theorem w_X10_isSide_22 {g : mm_c} (C : mm_ok g cX10_isSide "LessonCardsModel" (some .boolean) "isSide" 3 1 21 0 0) {M : mm_M} {res : Int32} (hf : f_X10_isSide_22 M = some res) (ko : (fun z => mm_q g 0 0 (some (mm_i z)) M) res) : mm_X g 0 0 M 22 [] [] := by
  unfold f_X10_isSide_22 at hf
  refine xr_iconst 23 C (v := 1) dX10_isSide_22 (by decide) rfl ?_
  refine xr_goto 27 C dX10_isSide_23 (by decide) ?_
  exact w_X10_isSide_27 C hf ko
noncomputable def f_X10_isSide_26 (M : mm_M) : Option (Int32) :=
  f_X10_isSide_27 M 0
set_option maxRecDepth 20000 in
theorem w_X10_isSide_26 {g : mm_c} (C : mm_ok g cX10_isSide "LessonCardsModel" (some .boolean) "isSide" 3 1 21 0 0) {M : mm_M} {res : Int32} (hf : f_X10_isSide_26 M = some res) (ko : (fun z => mm_q g 0 0 (some (mm_i z)) M) res) : mm_X g 0 0 M 26 [] [] := by
  unfold f_X10_isSide_26 at hf
  refine xr_iconst 27 C (v := 0) dX10_isSide_26 (by decide) rfl ?_
  exact w_X10_isSide_27 C hf ko
noncomputable def f_X10_isSide_12 (M : mm_M) (v0 : Option Nat) (v1 : Int32) (v2 : Int32) : Option (Int32) :=
  (mm_fR M v0 11 0).bind fun x14 =>
  (mm_aI M x14 12 v1).bind fun x18 =>
  if x18 ≤ v2 then f_X10_isSide_26 M else f_X10_isSide_22 M
set_option maxRecDepth 20000 in
theorem w_X10_isSide_12 {g : mm_c} (C : mm_ok g cX10_isSide "LessonCardsModel" (some .boolean) "isSide" 3 1 21 0 0) {M : mm_M} {v0 : Option Nat} {v1 : Int32} {v2 : Int32} {res : Int32} (hf : f_X10_isSide_12 M v0 v1 v2 = some res) (ko : (fun z => mm_q g 0 0 (some (mm_i z)) M) res) : mm_X g 0 0 M 12 [(0, mm_r v0), (1, mm_i v1), (2, mm_i v2)] [] := by
  unfold f_X10_isSide_12 at hf
  refine xr_iload_n 13 2 C dX10_isSide_12 rfl rfl rfl ?_
  refine xr_aload_n 14 0 C dX10_isSide_13 rfl rfl rfl ?_
  obtain ⟨x14, h14, hf⟩ := mm_bd_e hf
  refine xr_getR 17 C cf_X10_9 rfl h14 dX10_isSide_14 rfl ?_
  refine xr_iload_n 18 1 C dX10_isSide_17 rfl rfl rfl ?_
  obtain ⟨x18, h18, hf⟩ := mm_bd_e hf
  refine xr_aldI 19 C h18 dX10_isSide_18 rfl ?_
  refine xr_icmp_ge 26 22 C dX10_isSide_19 (by decide) rfl (fun hc => ?_) (fun hc => ?_)
  · replace hf := (if_pos hc).symm.trans hf
    refine xr_sub [] (lv2 := []) rfl ?_
    exact w_X10_isSide_26 C hf ko
  · replace hf := (if_neg hc).symm.trans hf
    refine xr_sub [] (lv2 := []) rfl ?_
    exact w_X10_isSide_22 C hf ko
noncomputable def f_X10_isSide_8 (M : mm_M) (v0 : Option Nat) (v1 : Int32) (v2 : Int32) : Option (Int32) :=
  if v2 < 0 then f_X10_isSide_26 M else f_X10_isSide_12 M v0 v1 v2
set_option maxRecDepth 20000 in
theorem w_X10_isSide_8 {g : mm_c} (C : mm_ok g cX10_isSide "LessonCardsModel" (some .boolean) "isSide" 3 1 21 0 0) {M : mm_M} {v0 : Option Nat} {v1 : Int32} {v2 : Int32} {res : Int32} (hf : f_X10_isSide_8 M v0 v1 v2 = some res) (ko : (fun z => mm_q g 0 0 (some (mm_i z)) M) res) : mm_X g 0 0 M 8 [(0, mm_r v0), (1, mm_i v1), (2, mm_i v2)] [] := by
  unfold f_X10_isSide_8 at hf
  refine xr_iload_n 9 2 C dX10_isSide_8 rfl rfl rfl ?_
  refine xr_if_lt 26 12 C dX10_isSide_9 (by decide) rfl (fun hc => ?_) (fun hc => ?_)
  · replace hf := (if_pos hc).symm.trans hf
    refine xr_sub [] (lv2 := []) rfl ?_
    exact w_X10_isSide_26 C hf ko
  · replace hf := (if_neg hc).symm.trans hf
    exact w_X10_isSide_12 C hf ko
noncomputable def f_X10_isSide_0 (M : mm_M) (v0 : Option Nat) (v1 : Int32) (v2 : Int32) : Option (Int32) :=
  (mm_rc M v0 11).bind fun u2 =>
  (f_X10_isCard M v0 v1).bind fun x2 =>
  if x2 = 0 then f_X10_isSide_26 M else f_X10_isSide_8 M v0 v1 v2
set_option maxRecDepth 20000 in
theorem w_X10_isSide_0 {g : mm_c} (C : mm_ok g cX10_isSide "LessonCardsModel" (some .boolean) "isSide" 3 1 21 0 0) {M : mm_M} {v0 : Option Nat} {v1 : Int32} {v2 : Int32} {res : Int32} (hf : f_X10_isSide_0 M v0 v1 v2 = some res) (ko : (fun z => mm_q g 0 0 (some (mm_i z)) M) res) : mm_X g 0 0 M 0 [(0, mm_r v0), (1, mm_i v1), (2, mm_i v2)] [] := by
  unfold f_X10_isSide_0 at hf
  refine xr_aload_n 1 0 C dX10_isSide_0 rfl rfl rfl ?_
  refine xr_iload_n 2 1 C dX10_isSide_1 rfl rfl rfl ?_
  obtain ⟨u2, g2, hf⟩ := mm_bd_e hf
  obtain ⟨x2, h2, hf⟩ := mm_bd_e hf
  refine xr_callV 5 C [mm_i v1] cm_X10_119 (fun l G cy => c_X10_isCard l G cy h2) g2 rfl rfl ⟨⟨Nat.le_of_ble_eq_true rfl, Nat.le_of_ble_eq_true rfl⟩, (Nat.le_of_ble_eq_true rfl), (Nat.le_of_ble_eq_true rfl)⟩ (Nat.le_of_ble_eq_true rfl) dX10_isSide_2 rfl ?_
  refine xr_if_eq 26 8 C dX10_isSide_5 (by decide) rfl (fun hc => ?_) (fun hc => ?_)
  · replace hf := (if_pos hc).symm.trans hf
    refine xr_sub [] (lv2 := []) rfl ?_
    exact w_X10_isSide_26 C hf ko
  · replace hf := (if_neg hc).symm.trans hf
    exact w_X10_isSide_8 C hf ko
noncomputable def f_X10_isSide (M : mm_M) (v0 : Option Nat) (v1 : Int32) (v2 : Int32) : Option (Int32) := f_X10_isSide_0 M v0 v1 v2
theorem c_X10_isSide (l : Launch) (G : va_G) (cy : Nat → ClassId) {M : mm_M} {v0 : Option Nat} {v1 : Int32} {v2 : Int32} {r : Int32} (hf : f_X10_isSide M v0 v1 v2 = some r) : mm_Met l yX10_isSide cX10_isSide 3 (some .boolean) 1 21 0 0 G cy [mm_r v0, mm_i v1, mm_i v2] M (some (mm_i r)) M :=
  mm_enter (by decide) (Nat.le_of_ble_eq_true rfl) (fun p e R s m args below meth c Q C hq => xr_sub [0, 1, 2] (lv2 := [(0, mm_r v0), (1, mm_i v1), (2, mm_i v2)]) rfl (w_X10_isSide_0 C hf hq))
noncomputable def f_X10_card_9 (M : mm_M) : Option (Int32 × mm_M) :=
  some ((-1), M)
set_option maxRecDepth 20000 in
theorem w_X10_card_9 {g : mm_c} (C : mm_ok g cX10_card "LessonCardsModel" (some .int) "card" 2 1 22 0 0) {M : mm_M} {res : Int32 × mm_M} (hf : f_X10_card_9 M = some res) (ko : (fun z => mm_q g 0 0 (some (mm_i z.1)) z.2) res) : mm_X g 0 0 M 9 [] [] := by
  unfold f_X10_card_9 at hf
  refine xr_iconst 10 C (v := (-1)) dX10_card_9 (by decide) rfl ?_
  obtain rfl := Option.some.inj hf
  exact xr_iret C ko ⟨(Nat.le_of_ble_eq_true rfl), (Nat.le_of_ble_eq_true rfl)⟩ dX10_card_10
noncomputable def f_X10_card_20 (M : mm_M) : Option (Int32 × mm_M) :=
  some ((-2), M)
set_option maxRecDepth 20000 in
theorem w_X10_card_20 {g : mm_c} (C : mm_ok g cX10_card "LessonCardsModel" (some .int) "card" 2 1 22 0 0) {M : mm_M} {res : Int32 × mm_M} (hf : f_X10_card_20 M = some res) (ko : (fun z => mm_q g 0 0 (some (mm_i z.1)) z.2) res) : mm_X g 0 0 M 20 [] [] := by
  unfold f_X10_card_20 at hf
  refine xr_bipush 22 C (v := (-2)) dX10_card_20 (by decide) rfl ?_
  obtain rfl := Option.some.inj hf
  exact xr_iret C ko ⟨(Nat.le_of_ble_eq_true rfl), (Nat.le_of_ble_eq_true rfl)⟩ dX10_card_22
noncomputable def f_X10_card_23 (M : mm_M) (v0 : Option Nat) (v1 : Int32) : Option (Int32 × mm_M) :=
  (mm_fR M v0 11 0).bind fun x24 =>
  (mm_fI M v0 11 3).bind fun x28 =>
  (mm_tI M x24 x28 v1).bind fun M32 =>
  (mm_fR M32 v0 11 2).bind fun x34 =>
  (mm_fI M32 v0 11 3).bind fun x38 =>
  (mm_tI M32 x34 x38 0).bind fun M42 =>
  (mm_fI M42 v0 11 3).bind fun x45 =>
  (mm_pI M42 v0 11 3 (x45 + 1)).bind fun M50 =>
  (mm_fI M50 v0 11 3).bind fun x54 =>
  some ((x54 - 1), M50)
set_option maxRecDepth 20000 in
theorem w_X10_card_23 {g : mm_c} (C : mm_ok g cX10_card "LessonCardsModel" (some .int) "card" 2 1 22 0 0) {M : mm_M} {v0 : Option Nat} {v1 : Int32} {res : Int32 × mm_M} (hf : f_X10_card_23 M v0 v1 = some res) (ko : (fun z => mm_q g 0 0 (some (mm_i z.1)) z.2) res) : mm_X g 0 0 M 23 [(0, mm_r v0), (1, mm_i v1)] [] := by
  unfold f_X10_card_23 at hf
  refine xr_aload_n 24 0 C dX10_card_23 rfl rfl rfl ?_
  obtain ⟨x24, h24, hf⟩ := mm_bd_e hf
  refine xr_getR 27 C cf_X10_9 rfl h24 dX10_card_24 rfl ?_
  refine xr_aload_n 28 0 C dX10_card_27 rfl rfl rfl ?_
  obtain ⟨x28, h28, hf⟩ := mm_bd_e hf
  refine xr_getI 31 C cf_X10_116 rfl h28 dX10_card_28 rfl ?_
  refine xr_iload_n 32 1 C dX10_card_31 rfl rfl rfl ?_
  obtain ⟨M32, h32, hf⟩ := mm_bd_e hf
  refine xr_astI 33 C h32 dX10_card_32 rfl ?_
  refine xr_aload_n 34 0 C dX10_card_33 rfl rfl rfl ?_
  obtain ⟨x34, h34, hf⟩ := mm_bd_e hf
  refine xr_getR 37 C cf_X10_16 rfl h34 dX10_card_34 rfl ?_
  refine xr_aload_n 38 0 C dX10_card_37 rfl rfl rfl ?_
  obtain ⟨x38, h38, hf⟩ := mm_bd_e hf
  refine xr_getI 41 C cf_X10_116 rfl h38 dX10_card_38 rfl ?_
  refine xr_iconst 42 C (v := 0) dX10_card_41 (by decide) rfl ?_
  obtain ⟨M42, h42, hf⟩ := mm_bd_e hf
  refine xr_astI 43 C h42 dX10_card_42 rfl ?_
  refine xr_aload_n 44 0 C dX10_card_43 rfl rfl rfl ?_
  refine xr_dup 45 C dX10_card_44 rfl rfl ?_
  obtain ⟨x45, h45, hf⟩ := mm_bd_e hf
  refine xr_getI 48 C cf_X10_116 rfl h45 dX10_card_45 rfl ?_
  refine xr_iconst 49 C (v := 1) dX10_card_48 (by decide) rfl ?_
  refine xr_iadd 50 C dX10_card_49 rfl ?_
  obtain ⟨M50, h50, hf⟩ := mm_bd_e hf
  refine xr_putI 53 C cf_X10_116 (fun h => by cases h) h50 dX10_card_50 rfl ?_
  refine xr_aload_n 54 0 C dX10_card_53 rfl rfl rfl ?_
  obtain ⟨x54, h54, hf⟩ := mm_bd_e hf
  refine xr_getI 57 C cf_X10_116 rfl h54 dX10_card_54 rfl ?_
  refine xr_iconst 58 C (v := 1) dX10_card_57 (by decide) rfl ?_
  refine xr_isub 59 C dX10_card_58 rfl ?_
  obtain rfl := Option.some.inj hf
  exact xr_iret C ko ⟨(Nat.le_of_ble_eq_true rfl), (Nat.le_of_ble_eq_true rfl)⟩ dX10_card_59
noncomputable def f_X10_card_11 (M : mm_M) (v0 : Option Nat) (v1 : Int32) : Option (Int32 × mm_M) :=
  (mm_fI M v0 11 3).bind fun x12 =>
  if x12 = 120 then f_X10_card_20 M else f_X10_card_23 M v0 v1
set_option maxRecDepth 20000 in
theorem w_X10_card_11 {g : mm_c} (C : mm_ok g cX10_card "LessonCardsModel" (some .int) "card" 2 1 22 0 0) {M : mm_M} {v0 : Option Nat} {v1 : Int32} {res : Int32 × mm_M} (hf : f_X10_card_11 M v0 v1 = some res) (ko : (fun z => mm_q g 0 0 (some (mm_i z.1)) z.2) res) : mm_X g 0 0 M 11 [(0, mm_r v0), (1, mm_i v1)] [] := by
  unfold f_X10_card_11 at hf
  refine xr_aload_n 12 0 C dX10_card_11 rfl rfl rfl ?_
  obtain ⟨x12, h12, hf⟩ := mm_bd_e hf
  refine xr_getI 15 C cf_X10_116 rfl h12 dX10_card_12 rfl ?_
  refine xr_bipush 17 C (v := 120) dX10_card_15 (by decide) rfl ?_
  refine xr_icmp_ne 23 20 C dX10_card_17 (by decide) rfl (fun hc => ?_) (fun hc => ?_)
  · replace hf := (if_neg hc).symm.trans hf
    exact w_X10_card_23 C hf ko
  · replace hf := (if_pos hc).symm.trans hf
    refine xr_sub [] (lv2 := []) rfl ?_
    exact w_X10_card_20 C hf ko
noncomputable def f_X10_card_0 (M : mm_M) (v0 : Option Nat) (v1 : Int32) : Option (Int32 × mm_M) :=
  (f_X10_within M v1 1 4).bind fun x3 =>
  if x3 = 0 then f_X10_card_9 M else f_X10_card_11 M v0 v1
set_option maxRecDepth 20000 in
theorem w_X10_card_0 {g : mm_c} (C : mm_ok g cX10_card "LessonCardsModel" (some .int) "card" 2 1 22 0 0) {M : mm_M} {v0 : Option Nat} {v1 : Int32} {res : Int32 × mm_M} (hf : f_X10_card_0 M v0 v1 = some res) (ko : (fun z => mm_q g 0 0 (some (mm_i z.1)) z.2) res) : mm_X g 0 0 M 0 [(0, mm_r v0), (1, mm_i v1)] [] := by
  unfold f_X10_card_0 at hf
  refine xr_iload_n 1 1 C dX10_card_0 rfl rfl rfl ?_
  refine xr_iconst 2 C (v := 1) dX10_card_1 (by decide) rfl ?_
  refine xr_iconst 3 C (v := 4) dX10_card_2 (by decide) rfl ?_
  obtain ⟨x3, h3, hf⟩ := mm_bd_e hf
  refine xr_callS 6 C [mm_i v1, mm_i 1, mm_i 4] cm_X10_123 (fun l G cy => c_X10_within l G cy h3) rfl rfl ⟨⟨Nat.le_of_ble_eq_true rfl, Nat.le_of_ble_eq_true rfl⟩, (Nat.le_of_ble_eq_true rfl), (Nat.le_of_ble_eq_true rfl)⟩ (Nat.le_of_ble_eq_true rfl) dX10_card_3 rfl ?_
  refine xr_if_ne 11 9 C dX10_card_6 (by decide) rfl (fun hc => ?_) (fun hc => ?_)
  · replace hf := (if_neg hc).symm.trans hf
    exact w_X10_card_11 C hf ko
  · replace hf := (if_pos hc).symm.trans hf
    refine xr_sub [] (lv2 := []) rfl ?_
    exact w_X10_card_9 C hf ko
noncomputable def f_X10_card (M : mm_M) (v0 : Option Nat) (v1 : Int32) : Option (Int32 × mm_M) := f_X10_card_0 M v0 v1
theorem c_X10_card (l : Launch) (G : va_G) (cy : Nat → ClassId) {M : mm_M} {v0 : Option Nat} {v1 : Int32} {r : Int32} {M1 : mm_M} (hf : f_X10_card M v0 v1 = some (r, M1)) : mm_Met l yX10_card cX10_card 2 (some .int) 1 22 0 0 G cy [mm_r v0, mm_i v1] M (some (mm_i r)) M1 :=
  mm_enter (by decide) (Nat.le_of_ble_eq_true rfl) (fun p e R s m args below meth c Q C hq => xr_sub [0, 1] (lv2 := [(0, mm_r v0), (1, mm_i v1)]) rfl (w_X10_card_0 C hf hq))
def h_X10_leads_55 (g : mm_c) (v0 : Option Nat) (v2 : Int32) (v4 : Int32) : (mm_M × Int32 × Int32) → Prop := fun x => mm_X g 0 0 x.1 55 [(0, mm_r v0), (2, mm_i v2), (3, mm_i x.2.1), (4, mm_i v4), (5, mm_i x.2.2)] []
def h_X10_leads_43 (g : mm_c) (v0 : Option Nat) (v2 : Int32) : (mm_M × Int32 × Int32) → Prop := fun x => mm_X g 0 0 x.1 43 [(0, mm_r v0), (2, mm_i v2), (3, mm_i x.2.1), (4, mm_i x.2.2)] []
def h_X10_leads_34 (g : mm_c) (v0 : Option Nat) (v2 : Int32) : (mm_M × Int32) → Prop := fun x => mm_X g 0 0 x.1 34 [(0, mm_r v0), (2, mm_i v2), (3, mm_i x.2)] []
def h_X10_leads_2 (g : mm_c) (v0 : Option Nat) (v1 : Int32) (v2 : Int32) : (mm_M × Int32) → Prop := fun x => mm_X g 0 0 x.1 2 [(0, mm_r v0), (1, mm_i v1), (2, mm_i v2), (3, mm_i x.2)] []
noncomputable def f_X10_leads_25 (M : mm_M) (v0 : Option Nat) (v1 : Int32) (v2 : Int32) (v3 : Int32) (s0 : Option Nat) (s1 : Int32) (s2 : Int32) : Option ((mm_M × Int32) ⊕ (Int32 × mm_M)) :=
  (mm_tZ M s0 s1 s2).bind fun M25 =>
  some (.inl (M25, (v3 + 1)))
set_option maxRecDepth 20000 in
theorem w_X10_leads_25 {g : mm_c} (C : mm_ok g cX10_leads "LessonCardsModel" (some .boolean) "leads" 6 0 0 0 0) {M : mm_M} {v0 : Option Nat} {v1 : Int32} {v2 : Int32} {v3 : Int32} {s0 : Option Nat} {s1 : Int32} {s2 : Int32} {res : (mm_M × Int32) ⊕ (Int32 × mm_M)} (hf : f_X10_leads_25 M v0 v1 v2 v3 s0 s1 s2 = some res) (ko : (mm_o (h_X10_leads_2 g v0 v1 v2) (fun z => mm_q g 0 0 (some (mm_i z.1)) z.2)) res) : mm_X g 0 0 M 25 [(0, mm_r v0), (1, mm_i v1), (2, mm_i v2), (3, mm_i v3)] [mm_i s2, mm_i s1, mm_r s0] := by
  unfold f_X10_leads_25 at hf
  obtain ⟨M25, h25, hf⟩ := mm_bd_e hf
  refine xr_astZ 26 C h25 dX10_leads_25 rfl ?_
  refine xr_iinc 29 3 C dX10_leads_26 rfl (by decide) (v := 1) (by decide) rfl [(3, mm_i (v3 + 1)), (0, mm_r v0), (1, mm_i v1), (2, mm_i v2)] rfl ?_
  refine xr_goto 2 C dX10_leads_29 (by decide) ?_
  refine xr_sub [1, 2, 3, 0] (lv2 := [(0, mm_r v0), (1, mm_i v1), (2, mm_i v2), (3, mm_i (v3 + 1))]) rfl ?_
  obtain rfl := Option.some.inj hf
  exact ko
noncomputable def f_X10_leads_20 (M : mm_M) (v0 : Option Nat) (v1 : Int32) (v2 : Int32) (v3 : Int32) (s0 : Option Nat) (s1 : Int32) : Option ((mm_M × Int32) ⊕ (Int32 × mm_M)) :=
  f_X10_leads_25 M v0 v1 v2 v3 s0 s1 1
set_option maxRecDepth 20000 in
theorem w_X10_leads_20 {g : mm_c} (C : mm_ok g cX10_leads "LessonCardsModel" (some .boolean) "leads" 6 0 0 0 0) {M : mm_M} {v0 : Option Nat} {v1 : Int32} {v2 : Int32} {v3 : Int32} {s0 : Option Nat} {s1 : Int32} {res : (mm_M × Int32) ⊕ (Int32 × mm_M)} (hf : f_X10_leads_20 M v0 v1 v2 v3 s0 s1 = some res) (ko : (mm_o (h_X10_leads_2 g v0 v1 v2) (fun z => mm_q g 0 0 (some (mm_i z.1)) z.2)) res) : mm_X g 0 0 M 20 [(0, mm_r v0), (1, mm_i v1), (2, mm_i v2), (3, mm_i v3)] [mm_i s1, mm_r s0] := by
  unfold f_X10_leads_20 at hf
  refine xr_iconst 21 C (v := 1) dX10_leads_20 (by decide) rfl ?_
  refine xr_goto 25 C dX10_leads_21 (by decide) ?_
  exact w_X10_leads_25 C hf ko
noncomputable def f_X10_leads_24 (M : mm_M) (v0 : Option Nat) (v1 : Int32) (v2 : Int32) (v3 : Int32) (s0 : Option Nat) (s1 : Int32) : Option ((mm_M × Int32) ⊕ (Int32 × mm_M)) :=
  f_X10_leads_25 M v0 v1 v2 v3 s0 s1 0
set_option maxRecDepth 20000 in
theorem w_X10_leads_24 {g : mm_c} (C : mm_ok g cX10_leads "LessonCardsModel" (some .boolean) "leads" 6 0 0 0 0) {M : mm_M} {v0 : Option Nat} {v1 : Int32} {v2 : Int32} {v3 : Int32} {s0 : Option Nat} {s1 : Int32} {res : (mm_M × Int32) ⊕ (Int32 × mm_M)} (hf : f_X10_leads_24 M v0 v1 v2 v3 s0 s1 = some res) (ko : (mm_o (h_X10_leads_2 g v0 v1 v2) (fun z => mm_q g 0 0 (some (mm_i z.1)) z.2)) res) : mm_X g 0 0 M 24 [(0, mm_r v0), (1, mm_i v1), (2, mm_i v2), (3, mm_i v3)] [mm_i s1, mm_r s0] := by
  unfold f_X10_leads_24 at hf
  refine xr_iconst 25 C (v := 0) dX10_leads_24 (by decide) rfl ?_
  exact w_X10_leads_25 C hf ko
noncomputable def f_X10_leads_10 (M : mm_M) (v0 : Option Nat) (v1 : Int32) (v2 : Int32) (v3 : Int32) : Option ((mm_M × Int32) ⊕ (Int32 × mm_M)) :=
  (mm_fR M v0 11 44).bind fun x11 =>
  if v3 = v1 then f_X10_leads_20 M v0 v1 v2 v3 x11 v3 else f_X10_leads_24 M v0 v1 v2 v3 x11 v3
set_option maxRecDepth 20000 in
theorem w_X10_leads_10 {g : mm_c} (C : mm_ok g cX10_leads "LessonCardsModel" (some .boolean) "leads" 6 0 0 0 0) {M : mm_M} {v0 : Option Nat} {v1 : Int32} {v2 : Int32} {v3 : Int32} {res : (mm_M × Int32) ⊕ (Int32 × mm_M)} (hf : f_X10_leads_10 M v0 v1 v2 v3 = some res) (ko : (mm_o (h_X10_leads_2 g v0 v1 v2) (fun z => mm_q g 0 0 (some (mm_i z.1)) z.2)) res) : mm_X g 0 0 M 10 [(0, mm_r v0), (1, mm_i v1), (2, mm_i v2), (3, mm_i v3)] [] := by
  unfold f_X10_leads_10 at hf
  refine xr_aload_n 11 0 C dX10_leads_10 rfl rfl rfl ?_
  obtain ⟨x11, h11, hf⟩ := mm_bd_e hf
  refine xr_getR 14 C cf_X10_107 rfl h11 dX10_leads_11 rfl ?_
  refine xr_iload_n 15 3 C dX10_leads_14 rfl rfl rfl ?_
  refine xr_iload_n 16 3 C dX10_leads_15 rfl rfl rfl ?_
  refine xr_iload_n 17 1 C dX10_leads_16 rfl rfl rfl ?_
  refine xr_icmp_ne 24 20 C dX10_leads_17 (by decide) rfl (fun hc => ?_) (fun hc => ?_)
  · replace hf := (if_neg hc).symm.trans hf
    exact w_X10_leads_24 C hf ko
  · replace hf := (if_pos hc).symm.trans hf
    exact w_X10_leads_20 C hf ko
noncomputable def f_X10_leads_106 (M : mm_M) (v0 : Option Nat) (v2 : Int32) (v4 : Int32) (v5 : Int32) (s0 : Int32) : Option ((mm_M × Int32 × Int32) ⊕ ((mm_M × Int32 × Int32) ⊕ ((mm_M × Int32) ⊕ (Int32 × mm_M)))) :=
  (mm_fR M v0 11 44).bind fun x108 =>
  (mm_fR M v0 11 1).bind fun x112 =>
  (mm_aI M x112 12 ((4 * v4) + v5)).bind fun x122 =>
  (mm_tZ M x108 x122 1).bind fun M124 =>
  some (.inl (M124, s0, (v5 + 1)))
set_option maxRecDepth 20000 in
theorem w_X10_leads_106 {g : mm_c} (C : mm_ok g cX10_leads "LessonCardsModel" (some .boolean) "leads" 6 0 0 0 0) {M : mm_M} {v0 : Option Nat} {v2 : Int32} {v4 : Int32} {v5 : Int32} {s0 : Int32} {res : (mm_M × Int32 × Int32) ⊕ ((mm_M × Int32 × Int32) ⊕ ((mm_M × Int32) ⊕ (Int32 × mm_M)))} (hf : f_X10_leads_106 M v0 v2 v4 v5 s0 = some res) (ko : (mm_o (h_X10_leads_55 g v0 v2 v4) (mm_o (h_X10_leads_43 g v0 v2) (mm_o (h_X10_leads_34 g v0 v2) (fun z => mm_q g 0 0 (some (mm_i z.1)) z.2)))) res) : mm_X g 0 0 M 106 [(0, mm_r v0), (2, mm_i v2), (4, mm_i v4), (5, mm_i v5)] [mm_i s0] := by
  unfold f_X10_leads_106 at hf
  refine xr_istore_n 107 C dX10_leads_106 rfl (by decide) rfl [(3, mm_i s0), (0, mm_r v0), (2, mm_i v2), (4, mm_i v4), (5, mm_i v5)] rfl ?_
  refine xr_aload_n 108 1 C dX10_leads_107 rfl rfl rfl ?_
  obtain ⟨x108, h108, hf⟩ := mm_bd_e hf
  refine xr_getR 111 C cf_X10_107 rfl h108 dX10_leads_108 rfl ?_
  refine xr_aload_n 112 1 C dX10_leads_111 rfl rfl rfl ?_
  obtain ⟨x112, h112, hf⟩ := mm_bd_e hf
  refine xr_getR 115 C cf_X10_13 rfl h112 dX10_leads_112 rfl ?_
  refine xr_iconst 116 C (v := 4) dX10_leads_115 (by decide) rfl ?_
  refine xr_iload 118 3 C dX10_leads_116 rfl rfl ?_
  refine xr_imul 119 C dX10_leads_118 rfl ?_
  refine xr_iload 121 4 C dX10_leads_119 rfl rfl ?_
  refine xr_iadd 122 C dX10_leads_121 rfl ?_
  obtain ⟨x122, h122, hf⟩ := mm_bd_e hf
  refine xr_aldI 123 C h122 dX10_leads_122 rfl ?_
  refine xr_iconst 124 C (v := 1) dX10_leads_123 (by decide) rfl ?_
  obtain ⟨M124, h124, hf⟩ := mm_bd_e hf
  refine xr_astZ 125 C h124 dX10_leads_124 rfl ?_
  refine xr_iinc 128 4 C dX10_leads_125 rfl (by decide) (v := 1) (by decide) rfl [(5, mm_i (v5 + 1)), (3, mm_i s0), (0, mm_r v0), (2, mm_i v2), (4, mm_i v4)] rfl ?_
  refine xr_goto 55 C dX10_leads_128 (by decide) ?_
  refine xr_sub [2, 3, 1, 4, 0] (lv2 := [(0, mm_r v0), (2, mm_i v2), (3, mm_i s0), (4, mm_i v4), (5, mm_i (v5 + 1))]) rfl ?_
  obtain rfl := Option.some.inj hf
  exact ko
noncomputable def f_X10_leads_101 (M : mm_M) (v0 : Option Nat) (v2 : Int32) (v4 : Int32) (v5 : Int32) : Option ((mm_M × Int32 × Int32) ⊕ ((mm_M × Int32 × Int32) ⊕ ((mm_M × Int32) ⊕ (Int32 × mm_M)))) :=
  f_X10_leads_106 M v0 v2 v4 v5 1
set_option maxRecDepth 20000 in
theorem w_X10_leads_101 {g : mm_c} (C : mm_ok g cX10_leads "LessonCardsModel" (some .boolean) "leads" 6 0 0 0 0) {M : mm_M} {v0 : Option Nat} {v2 : Int32} {v4 : Int32} {v5 : Int32} {res : (mm_M × Int32 × Int32) ⊕ ((mm_M × Int32 × Int32) ⊕ ((mm_M × Int32) ⊕ (Int32 × mm_M)))} (hf : f_X10_leads_101 M v0 v2 v4 v5 = some res) (ko : (mm_o (h_X10_leads_55 g v0 v2 v4) (mm_o (h_X10_leads_43 g v0 v2) (mm_o (h_X10_leads_34 g v0 v2) (fun z => mm_q g 0 0 (some (mm_i z.1)) z.2)))) res) : mm_X g 0 0 M 101 [(0, mm_r v0), (2, mm_i v2), (4, mm_i v4), (5, mm_i v5)] [] := by
  unfold f_X10_leads_101 at hf
  refine xr_iconst 102 C (v := 1) dX10_leads_101 (by decide) rfl ?_
  refine xr_goto 106 C dX10_leads_102 (by decide) ?_
  exact w_X10_leads_106 C hf ko
noncomputable def f_X10_leads_105 (M : mm_M) (v0 : Option Nat) (v2 : Int32) (v4 : Int32) (v5 : Int32) : Option ((mm_M × Int32 × Int32) ⊕ ((mm_M × Int32 × Int32) ⊕ ((mm_M × Int32) ⊕ (Int32 × mm_M)))) :=
  f_X10_leads_106 M v0 v2 v4 v5 0
set_option maxRecDepth 20000 in
theorem w_X10_leads_105 {g : mm_c} (C : mm_ok g cX10_leads "LessonCardsModel" (some .boolean) "leads" 6 0 0 0 0) {M : mm_M} {v0 : Option Nat} {v2 : Int32} {v4 : Int32} {v5 : Int32} {res : (mm_M × Int32 × Int32) ⊕ ((mm_M × Int32 × Int32) ⊕ ((mm_M × Int32) ⊕ (Int32 × mm_M)))} (hf : f_X10_leads_105 M v0 v2 v4 v5 = some res) (ko : (mm_o (h_X10_leads_55 g v0 v2 v4) (mm_o (h_X10_leads_43 g v0 v2) (mm_o (h_X10_leads_34 g v0 v2) (fun z => mm_q g 0 0 (some (mm_i z.1)) z.2)))) res) : mm_X g 0 0 M 105 [(0, mm_r v0), (2, mm_i v2), (4, mm_i v4), (5, mm_i v5)] [] := by
  unfold f_X10_leads_105 at hf
  refine xr_iconst 106 C (v := 0) dX10_leads_105 (by decide) rfl ?_
  exact w_X10_leads_106 C hf ko
noncomputable def f_X10_leads_81 (M : mm_M) (v0 : Option Nat) (v2 : Int32) (v4 : Int32) (v5 : Int32) : Option ((mm_M × Int32 × Int32) ⊕ ((mm_M × Int32 × Int32) ⊕ ((mm_M × Int32) ⊕ (Int32 × mm_M)))) :=
  (mm_fR M v0 11 44).bind fun x82 =>
  (mm_fR M v0 11 1).bind fun x86 =>
  (mm_aI M x86 12 ((4 * v4) + v5)).bind fun x96 =>
  (mm_aI M x82 14 x96).bind fun x97 =>
  if x97 = 0 then f_X10_leads_101 M v0 v2 v4 v5 else f_X10_leads_105 M v0 v2 v4 v5
set_option maxRecDepth 20000 in
theorem w_X10_leads_81 {g : mm_c} (C : mm_ok g cX10_leads "LessonCardsModel" (some .boolean) "leads" 6 0 0 0 0) {M : mm_M} {v0 : Option Nat} {v2 : Int32} {v4 : Int32} {v5 : Int32} {res : (mm_M × Int32 × Int32) ⊕ ((mm_M × Int32 × Int32) ⊕ ((mm_M × Int32) ⊕ (Int32 × mm_M)))} (hf : f_X10_leads_81 M v0 v2 v4 v5 = some res) (ko : (mm_o (h_X10_leads_55 g v0 v2 v4) (mm_o (h_X10_leads_43 g v0 v2) (mm_o (h_X10_leads_34 g v0 v2) (fun z => mm_q g 0 0 (some (mm_i z.1)) z.2)))) res) : mm_X g 0 0 M 81 [(0, mm_r v0), (2, mm_i v2), (4, mm_i v4), (5, mm_i v5)] [] := by
  unfold f_X10_leads_81 at hf
  refine xr_aload_n 82 0 C dX10_leads_81 rfl rfl rfl ?_
  obtain ⟨x82, h82, hf⟩ := mm_bd_e hf
  refine xr_getR 85 C cf_X10_107 rfl h82 dX10_leads_82 rfl ?_
  refine xr_aload_n 86 0 C dX10_leads_85 rfl rfl rfl ?_
  obtain ⟨x86, h86, hf⟩ := mm_bd_e hf
  refine xr_getR 89 C cf_X10_13 rfl h86 dX10_leads_86 rfl ?_
  refine xr_iconst 90 C (v := 4) dX10_leads_89 (by decide) rfl ?_
  refine xr_iload 92 2 C dX10_leads_90 rfl rfl ?_
  refine xr_imul 93 C dX10_leads_92 rfl ?_
  refine xr_iload 95 3 C dX10_leads_93 rfl rfl ?_
  refine xr_iadd 96 C dX10_leads_95 rfl ?_
  obtain ⟨x96, h96, hf⟩ := mm_bd_e hf
  refine xr_aldI 97 C h96 dX10_leads_96 rfl ?_
  obtain ⟨x97, h97, hf⟩ := mm_bd_e hf
  refine xr_aldZ 98 C h97 dX10_leads_97 rfl ?_
  refine xr_if_ne 105 101 C dX10_leads_98 (by decide) rfl (fun hc => ?_) (fun hc => ?_)
  · replace hf := (if_neg hc).symm.trans hf
    exact w_X10_leads_105 C hf ko
  · replace hf := (if_pos hc).symm.trans hf
    exact w_X10_leads_101 C hf ko
noncomputable def f_X10_leads_77 (M : mm_M) (v0 : Option Nat) (v2 : Int32) (v3 : Int32) (v4 : Int32) (v5 : Int32) : Option ((mm_M × Int32 × Int32) ⊕ ((mm_M × Int32 × Int32) ⊕ ((mm_M × Int32) ⊕ (Int32 × mm_M)))) :=
  if v3 = 0 then f_X10_leads_81 M v0 v2 v4 v5 else f_X10_leads_101 M v0 v2 v4 v5
set_option maxRecDepth 20000 in
theorem w_X10_leads_77 {g : mm_c} (C : mm_ok g cX10_leads "LessonCardsModel" (some .boolean) "leads" 6 0 0 0 0) {M : mm_M} {v0 : Option Nat} {v2 : Int32} {v3 : Int32} {v4 : Int32} {v5 : Int32} {res : (mm_M × Int32 × Int32) ⊕ ((mm_M × Int32 × Int32) ⊕ ((mm_M × Int32) ⊕ (Int32 × mm_M)))} (hf : f_X10_leads_77 M v0 v2 v3 v4 v5 = some res) (ko : (mm_o (h_X10_leads_55 g v0 v2 v4) (mm_o (h_X10_leads_43 g v0 v2) (mm_o (h_X10_leads_34 g v0 v2) (fun z => mm_q g 0 0 (some (mm_i z.1)) z.2)))) res) : mm_X g 0 0 M 77 [(0, mm_r v0), (2, mm_i v2), (3, mm_i v3), (4, mm_i v4), (5, mm_i v5)] [] := by
  unfold f_X10_leads_77 at hf
  refine xr_iload_n 78 2 C dX10_leads_77 rfl rfl rfl ?_
  refine xr_if_ne 101 81 C dX10_leads_78 (by decide) rfl (fun hc => ?_) (fun hc => ?_)
  · replace hf := (if_neg hc).symm.trans hf
    refine xr_sub [0, 1, 3, 4] (lv2 := [(0, mm_r v0), (2, mm_i v2), (4, mm_i v4), (5, mm_i v5)]) rfl ?_
    exact w_X10_leads_101 C hf ko
  · replace hf := (if_pos hc).symm.trans hf
    refine xr_sub [0, 1, 3, 4] (lv2 := [(0, mm_r v0), (2, mm_i v2), (4, mm_i v4), (5, mm_i v5)]) rfl ?_
    exact w_X10_leads_81 C hf ko
noncomputable def f_X10_leads_131 (M : mm_M) (v0 : Option Nat) (v2 : Int32) (v3 : Int32) (v4 : Int32) : Option ((mm_M × Int32 × Int32) ⊕ ((mm_M × Int32) ⊕ (Int32 × mm_M))) :=
  some (.inl (M, v3, (v4 + 1)))
set_option maxRecDepth 20000 in
theorem w_X10_leads_131 {g : mm_c} (C : mm_ok g cX10_leads "LessonCardsModel" (some .boolean) "leads" 6 0 0 0 0) {M : mm_M} {v0 : Option Nat} {v2 : Int32} {v3 : Int32} {v4 : Int32} {res : (mm_M × Int32 × Int32) ⊕ ((mm_M × Int32) ⊕ (Int32 × mm_M))} (hf : f_X10_leads_131 M v0 v2 v3 v4 = some res) (ko : (mm_o (h_X10_leads_43 g v0 v2) (mm_o (h_X10_leads_34 g v0 v2) (fun z => mm_q g 0 0 (some (mm_i z.1)) z.2))) res) : mm_X g 0 0 M 131 [(0, mm_r v0), (2, mm_i v2), (3, mm_i v3), (4, mm_i v4)] [] := by
  unfold f_X10_leads_131 at hf
  refine xr_iinc 134 3 C dX10_leads_131 rfl (by decide) (v := 1) (by decide) rfl [(4, mm_i (v4 + 1)), (0, mm_r v0), (2, mm_i v2), (3, mm_i v3)] rfl ?_
  refine xr_goto 43 C dX10_leads_134 (by decide) ?_
  refine xr_sub [1, 2, 3, 0] (lv2 := [(0, mm_r v0), (2, mm_i v2), (3, mm_i v3), (4, mm_i (v4 + 1))]) rfl ?_
  obtain rfl := Option.some.inj hf
  exact ko
noncomputable def f_X10_leads_67 (M : mm_M) (v0 : Option Nat) (v2 : Int32) (v3 : Int32) (v4 : Int32) (v5 : Int32) : Option ((mm_M × Int32 × Int32) ⊕ ((mm_M × Int32 × Int32) ⊕ ((mm_M × Int32) ⊕ (Int32 × mm_M)))) :=
  (mm_fR M v0 11 44).bind fun x68 =>
  (mm_aI M x68 14 v4).bind fun x73 =>
  if x73 = 0 then mm_mp (f_X10_leads_131 M v0 v2 v3 v4) else f_X10_leads_77 M v0 v2 v3 v4 v5
set_option maxRecDepth 20000 in
theorem w_X10_leads_67 {g : mm_c} (C : mm_ok g cX10_leads "LessonCardsModel" (some .boolean) "leads" 6 0 0 0 0) {M : mm_M} {v0 : Option Nat} {v2 : Int32} {v3 : Int32} {v4 : Int32} {v5 : Int32} {res : (mm_M × Int32 × Int32) ⊕ ((mm_M × Int32 × Int32) ⊕ ((mm_M × Int32) ⊕ (Int32 × mm_M)))} (hf : f_X10_leads_67 M v0 v2 v3 v4 v5 = some res) (ko : (mm_o (h_X10_leads_55 g v0 v2 v4) (mm_o (h_X10_leads_43 g v0 v2) (mm_o (h_X10_leads_34 g v0 v2) (fun z => mm_q g 0 0 (some (mm_i z.1)) z.2)))) res) : mm_X g 0 0 M 67 [(0, mm_r v0), (2, mm_i v2), (3, mm_i v3), (4, mm_i v4), (5, mm_i v5)] [] := by
  unfold f_X10_leads_67 at hf
  refine xr_aload_n 68 0 C dX10_leads_67 rfl rfl rfl ?_
  obtain ⟨x68, h68, hf⟩ := mm_bd_e hf
  refine xr_getR 71 C cf_X10_107 rfl h68 dX10_leads_68 rfl ?_
  refine xr_iload 73 3 C dX10_leads_71 rfl rfl ?_
  obtain ⟨x73, h73, hf⟩ := mm_bd_e hf
  refine xr_aldZ 74 C h73 dX10_leads_73 rfl ?_
  refine xr_if_eq 131 77 C dX10_leads_74 (by decide) rfl (fun hc => ?_) (fun hc => ?_)
  · replace hf := (if_pos hc).symm.trans hf
    refine xr_sub [0, 1, 2, 3] (lv2 := [(0, mm_r v0), (2, mm_i v2), (3, mm_i v3), (4, mm_i v4)]) rfl ?_
    obtain ⟨z, hf2, rfl⟩ := mm_mp_e hf
    clear hf
    have hf := hf2
    clear hf2
    exact w_X10_leads_131 C hf ko
  · replace hf := (if_neg hc).symm.trans hf
    exact w_X10_leads_77 C hf ko
noncomputable def f_X10_leads_55 (M : mm_M) (v0 : Option Nat) (v2 : Int32) (v3 : Int32) (v4 : Int32) (v5 : Int32) : Option ((mm_M × Int32 × Int32) ⊕ ((mm_M × Int32 × Int32) ⊕ ((mm_M × Int32) ⊕ (Int32 × mm_M)))) :=
  (mm_fR M v0 11 2).bind fun x58 =>
  (mm_aI M x58 12 v4).bind fun x63 =>
  if x63 ≤ v5 then mm_mp (f_X10_leads_131 M v0 v2 v3 v4) else f_X10_leads_67 M v0 v2 v3 v4 v5
set_option maxRecDepth 20000 in
theorem w_X10_leads_55 {g : mm_c} (C : mm_ok g cX10_leads "LessonCardsModel" (some .boolean) "leads" 6 0 0 0 0) {M : mm_M} {v0 : Option Nat} {v2 : Int32} {v3 : Int32} {v4 : Int32} {v5 : Int32} {res : (mm_M × Int32 × Int32) ⊕ ((mm_M × Int32 × Int32) ⊕ ((mm_M × Int32) ⊕ (Int32 × mm_M)))} (hf : f_X10_leads_55 M v0 v2 v3 v4 v5 = some res) (ko : (mm_o (h_X10_leads_55 g v0 v2 v4) (mm_o (h_X10_leads_43 g v0 v2) (mm_o (h_X10_leads_34 g v0 v2) (fun z => mm_q g 0 0 (some (mm_i z.1)) z.2)))) res) : mm_X g 0 0 M 55 [(0, mm_r v0), (2, mm_i v2), (3, mm_i v3), (4, mm_i v4), (5, mm_i v5)] [] := by
  unfold f_X10_leads_55 at hf
  refine xr_iload 57 4 C dX10_leads_55 rfl rfl ?_
  refine xr_aload_n 58 0 C dX10_leads_57 rfl rfl rfl ?_
  obtain ⟨x58, h58, hf⟩ := mm_bd_e hf
  refine xr_getR 61 C cf_X10_16 rfl h58 dX10_leads_58 rfl ?_
  refine xr_iload 63 3 C dX10_leads_61 rfl rfl ?_
  obtain ⟨x63, h63, hf⟩ := mm_bd_e hf
  refine xr_aldI 64 C h63 dX10_leads_63 rfl ?_
  refine xr_icmp_ge 131 67 C dX10_leads_64 (by decide) rfl (fun hc => ?_) (fun hc => ?_)
  · replace hf := (if_pos hc).symm.trans hf
    refine xr_sub [0, 1, 2, 3] (lv2 := [(0, mm_r v0), (2, mm_i v2), (3, mm_i v3), (4, mm_i v4)]) rfl ?_
    obtain ⟨z, hf2, rfl⟩ := mm_mp_e hf
    clear hf
    have hf := hf2
    clear hf2
    exact w_X10_leads_131 C hf ko
  · replace hf := (if_neg hc).symm.trans hf
    exact w_X10_leads_67 C hf ko
noncomputable def f_X10_leads_55w (M : mm_M) (v0 : Option Nat) (v2 : Int32) (v3 : Int32) (v4 : Int32) (v5 : Int32) : Option ((mm_M × Int32 × Int32) ⊕ ((mm_M × Int32) ⊕ (Int32 × mm_M))) := mm_w (fun x => f_X10_leads_55 x.1 v0 v2 x.2.1 v4 x.2.2) (M, v3, v5)
theorem l_X10_leads_55 {g : mm_c} (C : mm_ok g cX10_leads "LessonCardsModel" (some .boolean) "leads" 6 0 0 0 0) {M : mm_M} {v0 : Option Nat} {v2 : Int32} {v3 : Int32} {v4 : Int32} {v5 : Int32} {res : (mm_M × Int32 × Int32) ⊕ ((mm_M × Int32) ⊕ (Int32 × mm_M))} (hf : f_X10_leads_55w M v0 v2 v3 v4 v5 = some res) (ko : (mm_o (h_X10_leads_43 g v0 v2) (mm_o (h_X10_leads_34 g v0 v2) (fun z => mm_q g 0 0 (some (mm_i z.1)) z.2))) res) : mm_X g 0 0 M 55 [(0, mm_r v0), (2, mm_i v2), (3, mm_i v3), (4, mm_i v4), (5, mm_i v5)] [] :=
  mm_w_W (body := fun x => f_X10_leads_55 x.1 v0 v2 x.2.1 v4 x.2.2) (Wh := h_X10_leads_55 g v0 v2 v4) (ok := (mm_o (h_X10_leads_43 g v0 v2) (mm_o (h_X10_leads_34 g v0 v2) (fun z => mm_q g 0 0 (some (mm_i z.1)) z.2)))) (x := (M, v3, v5)) (fun x r hb ho => w_X10_leads_55 C hb ho) hf ko
noncomputable def f_X10_leads_52 (M : mm_M) (v0 : Option Nat) (v2 : Int32) (v3 : Int32) (v4 : Int32) : Option ((mm_M × Int32 × Int32) ⊕ ((mm_M × Int32) ⊕ (Int32 × mm_M))) :=
  f_X10_leads_55w M v0 v2 v3 v4 0
set_option maxRecDepth 20000 in
theorem w_X10_leads_52 {g : mm_c} (C : mm_ok g cX10_leads "LessonCardsModel" (some .boolean) "leads" 6 0 0 0 0) {M : mm_M} {v0 : Option Nat} {v2 : Int32} {v3 : Int32} {v4 : Int32} {res : (mm_M × Int32 × Int32) ⊕ ((mm_M × Int32) ⊕ (Int32 × mm_M))} (hf : f_X10_leads_52 M v0 v2 v3 v4 = some res) (ko : (mm_o (h_X10_leads_43 g v0 v2) (mm_o (h_X10_leads_34 g v0 v2) (fun z => mm_q g 0 0 (some (mm_i z.1)) z.2))) res) : mm_X g 0 0 M 52 [(0, mm_r v0), (2, mm_i v2), (3, mm_i v3), (4, mm_i v4)] [] := by
  unfold f_X10_leads_52 at hf
  refine xr_iconst 53 C (v := 0) dX10_leads_52 (by decide) rfl ?_
  refine xr_istore 55 C dX10_leads_53 (by decide) rfl [(5, mm_i 0), (0, mm_r v0), (2, mm_i v2), (3, mm_i v3), (4, mm_i v4)] rfl ?_
  refine xr_sub [1, 2, 3, 4, 0] (lv2 := [(0, mm_r v0), (2, mm_i v2), (3, mm_i v3), (4, mm_i v4), (5, mm_i 0)]) rfl ?_
  exact l_X10_leads_55 C hf ko
noncomputable def f_X10_leads_137 (M : mm_M) (v0 : Option Nat) (v2 : Int32) (v3 : Int32) : Option ((mm_M × Int32) ⊕ (Int32 × mm_M)) :=
  some (.inl (M, v3))
set_option maxRecDepth 20000 in
theorem w_X10_leads_137 {g : mm_c} (C : mm_ok g cX10_leads "LessonCardsModel" (some .boolean) "leads" 6 0 0 0 0) {M : mm_M} {v0 : Option Nat} {v2 : Int32} {v3 : Int32} {res : (mm_M × Int32) ⊕ (Int32 × mm_M)} (hf : f_X10_leads_137 M v0 v2 v3 = some res) (ko : (mm_o (h_X10_leads_34 g v0 v2) (fun z => mm_q g 0 0 (some (mm_i z.1)) z.2)) res) : mm_X g 0 0 M 137 [(0, mm_r v0), (2, mm_i v2), (3, mm_i v3)] [] := by
  unfold f_X10_leads_137 at hf
  refine xr_goto 34 C dX10_leads_137 (by decide) ?_
  obtain rfl := Option.some.inj hf
  exact ko
noncomputable def f_X10_leads_43 (M : mm_M) (v0 : Option Nat) (v2 : Int32) (v3 : Int32) (v4 : Int32) : Option ((mm_M × Int32 × Int32) ⊕ ((mm_M × Int32) ⊕ (Int32 × mm_M))) :=
  (mm_fI M v0 11 3).bind fun x46 =>
  if x46 ≤ v4 then mm_mp (f_X10_leads_137 M v0 v2 v3) else f_X10_leads_52 M v0 v2 v3 v4
set_option maxRecDepth 20000 in
theorem w_X10_leads_43 {g : mm_c} (C : mm_ok g cX10_leads "LessonCardsModel" (some .boolean) "leads" 6 0 0 0 0) {M : mm_M} {v0 : Option Nat} {v2 : Int32} {v3 : Int32} {v4 : Int32} {res : (mm_M × Int32 × Int32) ⊕ ((mm_M × Int32) ⊕ (Int32 × mm_M))} (hf : f_X10_leads_43 M v0 v2 v3 v4 = some res) (ko : (mm_o (h_X10_leads_43 g v0 v2) (mm_o (h_X10_leads_34 g v0 v2) (fun z => mm_q g 0 0 (some (mm_i z.1)) z.2))) res) : mm_X g 0 0 M 43 [(0, mm_r v0), (2, mm_i v2), (3, mm_i v3), (4, mm_i v4)] [] := by
  unfold f_X10_leads_43 at hf
  refine xr_iload 45 3 C dX10_leads_43 rfl rfl ?_
  refine xr_aload_n 46 0 C dX10_leads_45 rfl rfl rfl ?_
  obtain ⟨x46, h46, hf⟩ := mm_bd_e hf
  refine xr_getI 49 C cf_X10_116 rfl h46 dX10_leads_46 rfl ?_
  refine xr_icmp_ge 137 52 C dX10_leads_49 (by decide) rfl (fun hc => ?_) (fun hc => ?_)
  · replace hf := (if_pos hc).symm.trans hf
    refine xr_sub [0, 1, 2] (lv2 := [(0, mm_r v0), (2, mm_i v2), (3, mm_i v3)]) rfl ?_
    obtain ⟨z, hf2, rfl⟩ := mm_mp_e hf
    clear hf
    have hf := hf2
    clear hf2
    exact w_X10_leads_137 C hf ko
  · replace hf := (if_neg hc).symm.trans hf
    exact w_X10_leads_52 C hf ko
noncomputable def f_X10_leads_43w (M : mm_M) (v0 : Option Nat) (v2 : Int32) (v3 : Int32) (v4 : Int32) : Option ((mm_M × Int32) ⊕ (Int32 × mm_M)) := mm_w (fun x => f_X10_leads_43 x.1 v0 v2 x.2.1 x.2.2) (M, v3, v4)
theorem l_X10_leads_43 {g : mm_c} (C : mm_ok g cX10_leads "LessonCardsModel" (some .boolean) "leads" 6 0 0 0 0) {M : mm_M} {v0 : Option Nat} {v2 : Int32} {v3 : Int32} {v4 : Int32} {res : (mm_M × Int32) ⊕ (Int32 × mm_M)} (hf : f_X10_leads_43w M v0 v2 v3 v4 = some res) (ko : (mm_o (h_X10_leads_34 g v0 v2) (fun z => mm_q g 0 0 (some (mm_i z.1)) z.2)) res) : mm_X g 0 0 M 43 [(0, mm_r v0), (2, mm_i v2), (3, mm_i v3), (4, mm_i v4)] [] :=
  mm_w_W (body := fun x => f_X10_leads_43 x.1 v0 v2 x.2.1 x.2.2) (Wh := h_X10_leads_43 g v0 v2) (ok := (mm_o (h_X10_leads_34 g v0 v2) (fun z => mm_q g 0 0 (some (mm_i z.1)) z.2))) (x := (M, v3, v4)) (fun x r hb ho => w_X10_leads_43 C hb ho) hf ko
noncomputable def f_X10_leads_38 (M : mm_M) (v0 : Option Nat) (v2 : Int32) : Option ((mm_M × Int32) ⊕ (Int32 × mm_M)) :=
  f_X10_leads_43w M v0 v2 0 0
set_option maxRecDepth 20000 in
theorem w_X10_leads_38 {g : mm_c} (C : mm_ok g cX10_leads "LessonCardsModel" (some .boolean) "leads" 6 0 0 0 0) {M : mm_M} {v0 : Option Nat} {v2 : Int32} {res : (mm_M × Int32) ⊕ (Int32 × mm_M)} (hf : f_X10_leads_38 M v0 v2 = some res) (ko : (mm_o (h_X10_leads_34 g v0 v2) (fun z => mm_q g 0 0 (some (mm_i z.1)) z.2)) res) : mm_X g 0 0 M 38 [(0, mm_r v0), (2, mm_i v2)] [] := by
  unfold f_X10_leads_38 at hf
  refine xr_iconst 39 C (v := 0) dX10_leads_38 (by decide) rfl ?_
  refine xr_istore_n 40 C dX10_leads_39 rfl (by decide) rfl [(3, mm_i 0), (0, mm_r v0), (2, mm_i v2)] rfl ?_
  refine xr_iconst 41 C (v := 0) dX10_leads_40 (by decide) rfl ?_
  refine xr_istore 43 C dX10_leads_41 (by decide) rfl [(4, mm_i 0), (3, mm_i 0), (0, mm_r v0), (2, mm_i v2)] rfl ?_
  refine xr_sub [2, 3, 1, 0] (lv2 := [(0, mm_r v0), (2, mm_i v2), (3, mm_i 0), (4, mm_i 0)]) rfl ?_
  exact l_X10_leads_43 C hf ko
noncomputable def f_X10_leads_140 (M : mm_M) (v0 : Option Nat) (v2 : Int32) : Option (Int32 × mm_M) :=
  (mm_fR M v0 11 44).bind fun x141 =>
  (mm_aI M x141 14 v2).bind fun x145 =>
  mm_gd (x145 = 0 ∨ x145 = 1) <|
  some (x145, M)
set_option maxRecDepth 20000 in
theorem w_X10_leads_140 {g : mm_c} (C : mm_ok g cX10_leads "LessonCardsModel" (some .boolean) "leads" 6 0 0 0 0) {M : mm_M} {v0 : Option Nat} {v2 : Int32} {res : Int32 × mm_M} (hf : f_X10_leads_140 M v0 v2 = some res) (ko : (fun z => mm_q g 0 0 (some (mm_i z.1)) z.2) res) : mm_X g 0 0 M 140 [(0, mm_r v0), (2, mm_i v2)] [] := by
  unfold f_X10_leads_140 at hf
  refine xr_aload_n 141 0 C dX10_leads_140 rfl rfl rfl ?_
  obtain ⟨x141, h141, hf⟩ := mm_bd_e hf
  refine xr_getR 144 C cf_X10_107 rfl h141 dX10_leads_141 rfl ?_
  refine xr_iload_n 145 1 C dX10_leads_144 rfl rfl rfl ?_
  obtain ⟨x145, h145, hf⟩ := mm_bd_e hf
  refine xr_aldZ 146 C h145 dX10_leads_145 rfl ?_
  obtain ⟨hz, hf⟩ := mm_gd_e hf
  obtain rfl := Option.some.inj hf
  exact xr_zret C hz ko ⟨(Nat.le_of_ble_eq_true rfl), (Nat.le_of_ble_eq_true rfl)⟩ dX10_leads_146
noncomputable def f_X10_leads_34 (M : mm_M) (v0 : Option Nat) (v2 : Int32) (v3 : Int32) : Option ((mm_M × Int32) ⊕ (Int32 × mm_M)) :=
  if v3 = 0 then mm_mp (f_X10_leads_140 M v0 v2) else f_X10_leads_38 M v0 v2
set_option maxRecDepth 20000 in
theorem w_X10_leads_34 {g : mm_c} (C : mm_ok g cX10_leads "LessonCardsModel" (some .boolean) "leads" 6 0 0 0 0) {M : mm_M} {v0 : Option Nat} {v2 : Int32} {v3 : Int32} {res : (mm_M × Int32) ⊕ (Int32 × mm_M)} (hf : f_X10_leads_34 M v0 v2 v3 = some res) (ko : (mm_o (h_X10_leads_34 g v0 v2) (fun z => mm_q g 0 0 (some (mm_i z.1)) z.2)) res) : mm_X g 0 0 M 34 [(0, mm_r v0), (2, mm_i v2), (3, mm_i v3)] [] := by
  unfold f_X10_leads_34 at hf
  refine xr_iload_n 35 2 C dX10_leads_34 rfl rfl rfl ?_
  refine xr_if_eq 140 38 C dX10_leads_35 (by decide) rfl (fun hc => ?_) (fun hc => ?_)
  · replace hf := (if_pos hc).symm.trans hf
    refine xr_sub [0, 1] (lv2 := [(0, mm_r v0), (2, mm_i v2)]) rfl ?_
    obtain ⟨z, hf2, rfl⟩ := mm_mp_e hf
    clear hf
    have hf := hf2
    clear hf2
    exact w_X10_leads_140 C hf ko
  · replace hf := (if_neg hc).symm.trans hf
    refine xr_sub [0, 1] (lv2 := [(0, mm_r v0), (2, mm_i v2)]) rfl ?_
    exact w_X10_leads_38 C hf ko
noncomputable def f_X10_leads_34w (M : mm_M) (v0 : Option Nat) (v2 : Int32) (v3 : Int32) : Option (Int32 × mm_M) := mm_w (fun x => f_X10_leads_34 x.1 v0 v2 x.2) (M, v3)
theorem l_X10_leads_34 {g : mm_c} (C : mm_ok g cX10_leads "LessonCardsModel" (some .boolean) "leads" 6 0 0 0 0) {M : mm_M} {v0 : Option Nat} {v2 : Int32} {v3 : Int32} {res : Int32 × mm_M} (hf : f_X10_leads_34w M v0 v2 v3 = some res) (ko : (fun z => mm_q g 0 0 (some (mm_i z.1)) z.2) res) : mm_X g 0 0 M 34 [(0, mm_r v0), (2, mm_i v2), (3, mm_i v3)] [] :=
  mm_w_W (body := fun x => f_X10_leads_34 x.1 v0 v2 x.2) (Wh := h_X10_leads_34 g v0 v2) (ok := (fun z => mm_q g 0 0 (some (mm_i z.1)) z.2)) (x := (M, v3)) (fun x r hb ho => w_X10_leads_34 C hb ho) hf ko
noncomputable def f_X10_leads_32 (M : mm_M) (v0 : Option Nat) (v2 : Int32) : Option (Int32 × mm_M) :=
  f_X10_leads_34w M v0 v2 1
set_option maxRecDepth 20000 in
theorem w_X10_leads_32 {g : mm_c} (C : mm_ok g cX10_leads "LessonCardsModel" (some .boolean) "leads" 6 0 0 0 0) {M : mm_M} {v0 : Option Nat} {v2 : Int32} {res : Int32 × mm_M} (hf : f_X10_leads_32 M v0 v2 = some res) (ko : (fun z => mm_q g 0 0 (some (mm_i z.1)) z.2) res) : mm_X g 0 0 M 32 [(0, mm_r v0), (2, mm_i v2)] [] := by
  unfold f_X10_leads_32 at hf
  refine xr_iconst 33 C (v := 1) dX10_leads_32 (by decide) rfl ?_
  refine xr_istore_n 34 C dX10_leads_33 rfl (by decide) rfl [(3, mm_i 1), (0, mm_r v0), (2, mm_i v2)] rfl ?_
  refine xr_sub [1, 2, 0] (lv2 := [(0, mm_r v0), (2, mm_i v2), (3, mm_i 1)]) rfl ?_
  exact l_X10_leads_34 C hf ko
noncomputable def f_X10_leads_2 (M : mm_M) (v0 : Option Nat) (v1 : Int32) (v2 : Int32) (v3 : Int32) : Option ((mm_M × Int32) ⊕ (Int32 × mm_M)) :=
  (mm_fI M v0 11 3).bind fun x4 =>
  if x4 ≤ v3 then mm_mp (f_X10_leads_32 M v0 v2) else f_X10_leads_10 M v0 v1 v2 v3
set_option maxRecDepth 20000 in
theorem w_X10_leads_2 {g : mm_c} (C : mm_ok g cX10_leads "LessonCardsModel" (some .boolean) "leads" 6 0 0 0 0) {M : mm_M} {v0 : Option Nat} {v1 : Int32} {v2 : Int32} {v3 : Int32} {res : (mm_M × Int32) ⊕ (Int32 × mm_M)} (hf : f_X10_leads_2 M v0 v1 v2 v3 = some res) (ko : (mm_o (h_X10_leads_2 g v0 v1 v2) (fun z => mm_q g 0 0 (some (mm_i z.1)) z.2)) res) : mm_X g 0 0 M 2 [(0, mm_r v0), (1, mm_i v1), (2, mm_i v2), (3, mm_i v3)] [] := by
  unfold f_X10_leads_2 at hf
  refine xr_iload_n 3 3 C dX10_leads_2 rfl rfl rfl ?_
  refine xr_aload_n 4 0 C dX10_leads_3 rfl rfl rfl ?_
  obtain ⟨x4, h4, hf⟩ := mm_bd_e hf
  refine xr_getI 7 C cf_X10_116 rfl h4 dX10_leads_4 rfl ?_
  refine xr_icmp_ge 32 10 C dX10_leads_7 (by decide) rfl (fun hc => ?_) (fun hc => ?_)
  · replace hf := (if_pos hc).symm.trans hf
    refine xr_sub [0, 2] (lv2 := [(0, mm_r v0), (2, mm_i v2)]) rfl ?_
    obtain ⟨z, hf2, rfl⟩ := mm_mp_e hf
    clear hf
    have hf := hf2
    clear hf2
    exact w_X10_leads_32 C hf ko
  · replace hf := (if_neg hc).symm.trans hf
    exact w_X10_leads_10 C hf ko
noncomputable def f_X10_leads_2w (M : mm_M) (v0 : Option Nat) (v1 : Int32) (v2 : Int32) (v3 : Int32) : Option (Int32 × mm_M) := mm_w (fun x => f_X10_leads_2 x.1 v0 v1 v2 x.2) (M, v3)
theorem l_X10_leads_2 {g : mm_c} (C : mm_ok g cX10_leads "LessonCardsModel" (some .boolean) "leads" 6 0 0 0 0) {M : mm_M} {v0 : Option Nat} {v1 : Int32} {v2 : Int32} {v3 : Int32} {res : Int32 × mm_M} (hf : f_X10_leads_2w M v0 v1 v2 v3 = some res) (ko : (fun z => mm_q g 0 0 (some (mm_i z.1)) z.2) res) : mm_X g 0 0 M 2 [(0, mm_r v0), (1, mm_i v1), (2, mm_i v2), (3, mm_i v3)] [] :=
  mm_w_W (body := fun x => f_X10_leads_2 x.1 v0 v1 v2 x.2) (Wh := h_X10_leads_2 g v0 v1 v2) (ok := (fun z => mm_q g 0 0 (some (mm_i z.1)) z.2)) (x := (M, v3)) (fun x r hb ho => w_X10_leads_2 C hb ho) hf ko
noncomputable def f_X10_leads_0 (M : mm_M) (v0 : Option Nat) (v1 : Int32) (v2 : Int32) : Option (Int32 × mm_M) :=
  f_X10_leads_2w M v0 v1 v2 0
set_option maxRecDepth 20000 in
theorem w_X10_leads_0 {g : mm_c} (C : mm_ok g cX10_leads "LessonCardsModel" (some .boolean) "leads" 6 0 0 0 0) {M : mm_M} {v0 : Option Nat} {v1 : Int32} {v2 : Int32} {res : Int32 × mm_M} (hf : f_X10_leads_0 M v0 v1 v2 = some res) (ko : (fun z => mm_q g 0 0 (some (mm_i z.1)) z.2) res) : mm_X g 0 0 M 0 [(0, mm_r v0), (1, mm_i v1), (2, mm_i v2)] [] := by
  unfold f_X10_leads_0 at hf
  refine xr_iconst 1 C (v := 0) dX10_leads_0 (by decide) rfl ?_
  refine xr_istore_n 2 C dX10_leads_1 rfl (by decide) rfl [(3, mm_i 0), (0, mm_r v0), (1, mm_i v1), (2, mm_i v2)] rfl ?_
  refine xr_sub [1, 2, 3, 0] (lv2 := [(0, mm_r v0), (1, mm_i v1), (2, mm_i v2), (3, mm_i 0)]) rfl ?_
  exact l_X10_leads_2 C hf ko
noncomputable def f_X10_leads (M : mm_M) (v0 : Option Nat) (v1 : Int32) (v2 : Int32) : Option (Int32 × mm_M) := f_X10_leads_0 M v0 v1 v2
theorem c_X10_leads (l : Launch) (G : va_G) (cy : Nat → ClassId) {M : mm_M} {v0 : Option Nat} {v1 : Int32} {v2 : Int32} {r : Int32} {M1 : mm_M} (hf : f_X10_leads M v0 v1 v2 = some (r, M1)) : mm_Met l yX10_leads cX10_leads 6 (some .boolean) 0 0 0 0 G cy [mm_r v0, mm_i v1, mm_i v2] M (some (mm_i r)) M1 :=
  mm_enter (by decide) (Nat.le_of_ble_eq_true rfl) (fun p e R s m args below meth c Q C hq => xr_sub [0, 1, 2] (lv2 := [(0, mm_r v0), (1, mm_i v1), (2, mm_i v2)]) rfl (w_X10_leads_0 C hf hq))
def h_X10_lean_25 (g : mm_c) (M : mm_M) (v0 : Option Nat) (v1 : Int32) (v2 : Int32) : Int32 → Prop := fun x => mm_X g 0 0 M 25 [(0, mm_r v0), (1, mm_i v1), (2, mm_i v2), (3, mm_i x)] []
noncomputable def f_X10_lean_21 (M : mm_M) : Option (Int32 × mm_M) :=
  some ((-1), M)
set_option maxRecDepth 20000 in
theorem w_X10_lean_21 {g : mm_c} (C : mm_ok g cX10_lean "LessonCardsModel" (some .int) "lean" 4 1 25 0 0) {M : mm_M} {res : Int32 × mm_M} (hf : f_X10_lean_21 M = some res) (ko : (fun z => mm_q g 0 0 (some (mm_i z.1)) z.2) res) : mm_X g 0 0 M 21 [] [] := by
  unfold f_X10_lean_21 at hf
  refine xr_iconst 22 C (v := (-1)) dX10_lean_21 (by decide) rfl ?_
  obtain rfl := Option.some.inj hf
  exact xr_iret C ko ⟨(Nat.le_of_ble_eq_true rfl), (Nat.le_of_ble_eq_true rfl)⟩ dX10_lean_22
noncomputable def f_X10_lean_49 (M : mm_M) : Option (Int32 × mm_M) :=
  some ((-1), M)
set_option maxRecDepth 20000 in
theorem w_X10_lean_49 {g : mm_c} (C : mm_ok g cX10_lean "LessonCardsModel" (some .int) "lean" 4 1 25 0 0) {M : mm_M} {res : Int32 × mm_M} (hf : f_X10_lean_49 M = some res) (ko : (fun z => mm_q g 0 0 (some (mm_i z.1)) z.2) res) : mm_X g 0 0 M 49 [] [] := by
  unfold f_X10_lean_49 at hf
  refine xr_iconst 50 C (v := (-1)) dX10_lean_49 (by decide) rfl ?_
  obtain rfl := Option.some.inj hf
  exact xr_iret C ko ⟨(Nat.le_of_ble_eq_true rfl), (Nat.le_of_ble_eq_true rfl)⟩ dX10_lean_50
noncomputable def f_X10_lean_51 (M : mm_M) (v0 : Option Nat) (v1 : Int32) (v2 : Int32) (v3 : Int32) : Option (Int32 ⊕ (Int32 × mm_M)) :=
  some (.inl (v3 + 1))
set_option maxRecDepth 20000 in
theorem w_X10_lean_51 {g : mm_c} (C : mm_ok g cX10_lean "LessonCardsModel" (some .int) "lean" 4 1 25 0 0) {M : mm_M} {v0 : Option Nat} {v1 : Int32} {v2 : Int32} {v3 : Int32} {res : Int32 ⊕ (Int32 × mm_M)} (hf : f_X10_lean_51 M v0 v1 v2 v3 = some res) (ko : (mm_o (h_X10_lean_25 g M v0 v1 v2) (fun z => mm_q g 0 0 (some (mm_i z.1)) z.2)) res) : mm_X g 0 0 M 51 [(0, mm_r v0), (1, mm_i v1), (2, mm_i v2), (3, mm_i v3)] [] := by
  unfold f_X10_lean_51 at hf
  refine xr_iinc 54 3 C dX10_lean_51 rfl (by decide) (v := 1) (by decide) rfl [(3, mm_i (v3 + 1)), (0, mm_r v0), (1, mm_i v1), (2, mm_i v2)] rfl ?_
  refine xr_goto 25 C dX10_lean_54 (by decide) ?_
  refine xr_sub [1, 2, 3, 0] (lv2 := [(0, mm_r v0), (1, mm_i v1), (2, mm_i v2), (3, mm_i (v3 + 1))]) rfl ?_
  obtain rfl := Option.some.inj hf
  exact ko
noncomputable def f_X10_lean_35 (M : mm_M) (v0 : Option Nat) (v1 : Int32) (v2 : Int32) (v3 : Int32) : Option (Int32 ⊕ (Int32 × mm_M)) :=
  (mm_fR M v0 11 1).bind fun x36 =>
  (mm_aI M x36 12 ((4 * v1) + v3)).bind fun x44 =>
  if x44 = v2 then mm_mp (f_X10_lean_49 M) else f_X10_lean_51 M v0 v1 v2 v3
set_option maxRecDepth 20000 in
theorem w_X10_lean_35 {g : mm_c} (C : mm_ok g cX10_lean "LessonCardsModel" (some .int) "lean" 4 1 25 0 0) {M : mm_M} {v0 : Option Nat} {v1 : Int32} {v2 : Int32} {v3 : Int32} {res : Int32 ⊕ (Int32 × mm_M)} (hf : f_X10_lean_35 M v0 v1 v2 v3 = some res) (ko : (mm_o (h_X10_lean_25 g M v0 v1 v2) (fun z => mm_q g 0 0 (some (mm_i z.1)) z.2)) res) : mm_X g 0 0 M 35 [(0, mm_r v0), (1, mm_i v1), (2, mm_i v2), (3, mm_i v3)] [] := by
  unfold f_X10_lean_35 at hf
  refine xr_aload_n 36 0 C dX10_lean_35 rfl rfl rfl ?_
  obtain ⟨x36, h36, hf⟩ := mm_bd_e hf
  refine xr_getR 39 C cf_X10_13 rfl h36 dX10_lean_36 rfl ?_
  refine xr_iconst 40 C (v := 4) dX10_lean_39 (by decide) rfl ?_
  refine xr_iload_n 41 1 C dX10_lean_40 rfl rfl rfl ?_
  refine xr_imul 42 C dX10_lean_41 rfl ?_
  refine xr_iload_n 43 3 C dX10_lean_42 rfl rfl rfl ?_
  refine xr_iadd 44 C dX10_lean_43 rfl ?_
  obtain ⟨x44, h44, hf⟩ := mm_bd_e hf
  refine xr_aldI 45 C h44 dX10_lean_44 rfl ?_
  refine xr_iload_n 46 2 C dX10_lean_45 rfl rfl rfl ?_
  refine xr_icmp_ne 51 49 C dX10_lean_46 (by decide) rfl (fun hc => ?_) (fun hc => ?_)
  · replace hf := (if_neg hc).symm.trans hf
    exact w_X10_lean_51 C hf ko
  · replace hf := (if_pos hc).symm.trans hf
    refine xr_sub [] (lv2 := []) rfl ?_
    obtain ⟨z, hf2, rfl⟩ := mm_mp_e hf
    clear hf
    have hf := hf2
    clear hf2
    exact w_X10_lean_49 C hf ko
noncomputable def f_X10_lean_66 (M : mm_M) : Option (Int32 × mm_M) :=
  some ((-3), M)
set_option maxRecDepth 20000 in
theorem w_X10_lean_66 {g : mm_c} (C : mm_ok g cX10_lean "LessonCardsModel" (some .int) "lean" 4 1 25 0 0) {M : mm_M} {res : Int32 × mm_M} (hf : f_X10_lean_66 M = some res) (ko : (fun z => mm_q g 0 0 (some (mm_i z.1)) z.2) res) : mm_X g 0 0 M 66 [] [] := by
  unfold f_X10_lean_66 at hf
  refine xr_bipush 68 C (v := (-3)) dX10_lean_66 (by decide) rfl ?_
  obtain rfl := Option.some.inj hf
  exact xr_iret C ko ⟨(Nat.le_of_ble_eq_true rfl), (Nat.le_of_ble_eq_true rfl)⟩ dX10_lean_68
noncomputable def f_X10_lean_79 (M : mm_M) : Option (Int32 × mm_M) :=
  some ((-2), M)
set_option maxRecDepth 20000 in
theorem w_X10_lean_79 {g : mm_c} (C : mm_ok g cX10_lean "LessonCardsModel" (some .int) "lean" 4 1 25 0 0) {M : mm_M} {res : Int32 × mm_M} (hf : f_X10_lean_79 M = some res) (ko : (fun z => mm_q g 0 0 (some (mm_i z.1)) z.2) res) : mm_X g 0 0 M 79 [] [] := by
  unfold f_X10_lean_79 at hf
  refine xr_bipush 81 C (v := (-2)) dX10_lean_79 (by decide) rfl ?_
  obtain rfl := Option.some.inj hf
  exact xr_iret C ko ⟨(Nat.le_of_ble_eq_true rfl), (Nat.le_of_ble_eq_true rfl)⟩ dX10_lean_81
noncomputable def f_X10_lean_82 (M : mm_M) (v0 : Option Nat) (v1 : Int32) (v2 : Int32) : Option (Int32 × mm_M) :=
  (mm_fR M v0 11 1).bind fun x83 =>
  (mm_fR M v0 11 2).bind fun x90 =>
  (mm_aI M x90 12 v1).bind fun x94 =>
  (mm_tI M x83 ((4 * v1) + x94) v2).bind fun M97 =>
  (mm_fR M97 v0 11 2).bind fun x99 =>
  (mm_aI M97 x99 12 v1).bind fun x104 =>
  (mm_tI M97 x99 v1 (x104 + 1)).bind fun M107 =>
  (mm_fR M107 v0 11 2).bind fun x109 =>
  (mm_aI M107 x109 12 v1).bind fun x113 =>
  some (x113, M107)
set_option maxRecDepth 20000 in
theorem w_X10_lean_82 {g : mm_c} (C : mm_ok g cX10_lean "LessonCardsModel" (some .int) "lean" 4 1 25 0 0) {M : mm_M} {v0 : Option Nat} {v1 : Int32} {v2 : Int32} {res : Int32 × mm_M} (hf : f_X10_lean_82 M v0 v1 v2 = some res) (ko : (fun z => mm_q g 0 0 (some (mm_i z.1)) z.2) res) : mm_X g 0 0 M 82 [(0, mm_r v0), (1, mm_i v1), (2, mm_i v2)] [] := by
  unfold f_X10_lean_82 at hf
  refine xr_aload_n 83 0 C dX10_lean_82 rfl rfl rfl ?_
  obtain ⟨x83, h83, hf⟩ := mm_bd_e hf
  refine xr_getR 86 C cf_X10_13 rfl h83 dX10_lean_83 rfl ?_
  refine xr_iconst 87 C (v := 4) dX10_lean_86 (by decide) rfl ?_
  refine xr_iload_n 88 1 C dX10_lean_87 rfl rfl rfl ?_
  refine xr_imul 89 C dX10_lean_88 rfl ?_
  refine xr_aload_n 90 0 C dX10_lean_89 rfl rfl rfl ?_
  obtain ⟨x90, h90, hf⟩ := mm_bd_e hf
  refine xr_getR 93 C cf_X10_16 rfl h90 dX10_lean_90 rfl ?_
  refine xr_iload_n 94 1 C dX10_lean_93 rfl rfl rfl ?_
  obtain ⟨x94, h94, hf⟩ := mm_bd_e hf
  refine xr_aldI 95 C h94 dX10_lean_94 rfl ?_
  refine xr_iadd 96 C dX10_lean_95 rfl ?_
  refine xr_iload_n 97 2 C dX10_lean_96 rfl rfl rfl ?_
  obtain ⟨M97, h97, hf⟩ := mm_bd_e hf
  refine xr_astI 98 C h97 dX10_lean_97 rfl ?_
  refine xr_aload_n 99 0 C dX10_lean_98 rfl rfl rfl ?_
  obtain ⟨x99, h99, hf⟩ := mm_bd_e hf
  refine xr_getR 102 C cf_X10_16 rfl h99 dX10_lean_99 rfl ?_
  refine xr_iload_n 103 1 C dX10_lean_102 rfl rfl rfl ?_
  refine xr_dup2_11 104 C dX10_lean_103 rfl rfl rfl ?_
  obtain ⟨x104, h104, hf⟩ := mm_bd_e hf
  refine xr_aldI 105 C h104 dX10_lean_104 rfl ?_
  refine xr_iconst 106 C (v := 1) dX10_lean_105 (by decide) rfl ?_
  refine xr_iadd 107 C dX10_lean_106 rfl ?_
  obtain ⟨M107, h107, hf⟩ := mm_bd_e hf
  refine xr_astI 108 C h107 dX10_lean_107 rfl ?_
  refine xr_aload_n 109 0 C dX10_lean_108 rfl rfl rfl ?_
  obtain ⟨x109, h109, hf⟩ := mm_bd_e hf
  refine xr_getR 112 C cf_X10_16 rfl h109 dX10_lean_109 rfl ?_
  refine xr_iload_n 113 1 C dX10_lean_112 rfl rfl rfl ?_
  obtain ⟨x113, h113, hf⟩ := mm_bd_e hf
  refine xr_aldI 114 C h113 dX10_lean_113 rfl ?_
  obtain rfl := Option.some.inj hf
  exact xr_iret C ko ⟨(Nat.le_of_ble_eq_true rfl), (Nat.le_of_ble_eq_true rfl)⟩ dX10_lean_114
noncomputable def f_X10_lean_69 (M : mm_M) (v0 : Option Nat) (v1 : Int32) (v2 : Int32) : Option (Int32 × mm_M) :=
  (mm_fR M v0 11 2).bind fun x70 =>
  (mm_aI M x70 12 v1).bind fun x74 =>
  if x74 = 4 then f_X10_lean_79 M else f_X10_lean_82 M v0 v1 v2
set_option maxRecDepth 20000 in
theorem w_X10_lean_69 {g : mm_c} (C : mm_ok g cX10_lean "LessonCardsModel" (some .int) "lean" 4 1 25 0 0) {M : mm_M} {v0 : Option Nat} {v1 : Int32} {v2 : Int32} {res : Int32 × mm_M} (hf : f_X10_lean_69 M v0 v1 v2 = some res) (ko : (fun z => mm_q g 0 0 (some (mm_i z.1)) z.2) res) : mm_X g 0 0 M 69 [(0, mm_r v0), (1, mm_i v1), (2, mm_i v2)] [] := by
  unfold f_X10_lean_69 at hf
  refine xr_aload_n 70 0 C dX10_lean_69 rfl rfl rfl ?_
  obtain ⟨x70, h70, hf⟩ := mm_bd_e hf
  refine xr_getR 73 C cf_X10_16 rfl h70 dX10_lean_70 rfl ?_
  refine xr_iload_n 74 1 C dX10_lean_73 rfl rfl rfl ?_
  obtain ⟨x74, h74, hf⟩ := mm_bd_e hf
  refine xr_aldI 75 C h74 dX10_lean_74 rfl ?_
  refine xr_iconst 76 C (v := 4) dX10_lean_75 (by decide) rfl ?_
  refine xr_icmp_ne 82 79 C dX10_lean_76 (by decide) rfl (fun hc => ?_) (fun hc => ?_)
  · replace hf := (if_neg hc).symm.trans hf
    exact w_X10_lean_82 C hf ko
  · replace hf := (if_pos hc).symm.trans hf
    refine xr_sub [] (lv2 := []) rfl ?_
    exact w_X10_lean_79 C hf ko
noncomputable def f_X10_lean_57 (M : mm_M) (v0 : Option Nat) (v1 : Int32) (v2 : Int32) : Option (Int32 × mm_M) :=
  (mm_rc M v0 11).bind fun u60 =>
  mm_b2 (f_X10_leads M v0 v2 v1) fun x60 M60 =>
  if x60 = 0 then f_X10_lean_69 M60 v0 v1 v2 else f_X10_lean_66 M60
set_option maxRecDepth 20000 in
theorem w_X10_lean_57 {g : mm_c} (C : mm_ok g cX10_lean "LessonCardsModel" (some .int) "lean" 4 1 25 0 0) {M : mm_M} {v0 : Option Nat} {v1 : Int32} {v2 : Int32} {res : Int32 × mm_M} (hf : f_X10_lean_57 M v0 v1 v2 = some res) (ko : (fun z => mm_q g 0 0 (some (mm_i z.1)) z.2) res) : mm_X g 0 0 M 57 [(0, mm_r v0), (1, mm_i v1), (2, mm_i v2)] [] := by
  unfold f_X10_lean_57 at hf
  refine xr_aload_n 58 0 C dX10_lean_57 rfl rfl rfl ?_
  refine xr_iload_n 59 2 C dX10_lean_58 rfl rfl rfl ?_
  refine xr_iload_n 60 1 C dX10_lean_59 rfl rfl rfl ?_
  obtain ⟨u60, g60, hf⟩ := mm_bd_e hf
  obtain ⟨x60, M60, h60, hf⟩ := mm_b2_e hf
  refine xr_callV 63 C [mm_i v2, mm_i v1] cm_X10_127 (fun l G cy => c_X10_leads l G cy h60) g60 rfl rfl ⟨⟨Nat.le_of_ble_eq_true rfl, Nat.le_of_ble_eq_true rfl⟩, (Nat.le_of_ble_eq_true rfl), (Nat.le_of_ble_eq_true rfl)⟩ (Nat.le_of_ble_eq_true rfl) dX10_lean_60 rfl ?_
  refine xr_if_eq 69 66 C dX10_lean_63 (by decide) rfl (fun hc => ?_) (fun hc => ?_)
  · replace hf := (if_pos hc).symm.trans hf
    exact w_X10_lean_69 C hf ko
  · replace hf := (if_neg hc).symm.trans hf
    refine xr_sub [] (lv2 := []) rfl ?_
    exact w_X10_lean_66 C hf ko
noncomputable def f_X10_lean_25 (M : mm_M) (v0 : Option Nat) (v1 : Int32) (v2 : Int32) (v3 : Int32) : Option (Int32 ⊕ (Int32 × mm_M)) :=
  (mm_fR M v0 11 2).bind fun x27 =>
  (mm_aI M x27 12 v1).bind fun x31 =>
  if x31 ≤ v3 then mm_mp (f_X10_lean_57 M v0 v1 v2) else f_X10_lean_35 M v0 v1 v2 v3
set_option maxRecDepth 20000 in
theorem w_X10_lean_25 {g : mm_c} (C : mm_ok g cX10_lean "LessonCardsModel" (some .int) "lean" 4 1 25 0 0) {M : mm_M} {v0 : Option Nat} {v1 : Int32} {v2 : Int32} {v3 : Int32} {res : Int32 ⊕ (Int32 × mm_M)} (hf : f_X10_lean_25 M v0 v1 v2 v3 = some res) (ko : (mm_o (h_X10_lean_25 g M v0 v1 v2) (fun z => mm_q g 0 0 (some (mm_i z.1)) z.2)) res) : mm_X g 0 0 M 25 [(0, mm_r v0), (1, mm_i v1), (2, mm_i v2), (3, mm_i v3)] [] := by
  unfold f_X10_lean_25 at hf
  refine xr_iload_n 26 3 C dX10_lean_25 rfl rfl rfl ?_
  refine xr_aload_n 27 0 C dX10_lean_26 rfl rfl rfl ?_
  obtain ⟨x27, h27, hf⟩ := mm_bd_e hf
  refine xr_getR 30 C cf_X10_16 rfl h27 dX10_lean_27 rfl ?_
  refine xr_iload_n 31 1 C dX10_lean_30 rfl rfl rfl ?_
  obtain ⟨x31, h31, hf⟩ := mm_bd_e hf
  refine xr_aldI 32 C h31 dX10_lean_31 rfl ?_
  refine xr_icmp_ge 57 35 C dX10_lean_32 (by decide) rfl (fun hc => ?_) (fun hc => ?_)
  · replace hf := (if_pos hc).symm.trans hf
    refine xr_sub [0, 1, 2] (lv2 := [(0, mm_r v0), (1, mm_i v1), (2, mm_i v2)]) rfl ?_
    obtain ⟨z, hf2, rfl⟩ := mm_mp_e hf
    clear hf
    have hf := hf2
    clear hf2
    exact w_X10_lean_57 C hf ko
  · replace hf := (if_neg hc).symm.trans hf
    exact w_X10_lean_35 C hf ko
noncomputable def f_X10_lean_25w (M : mm_M) (v0 : Option Nat) (v1 : Int32) (v2 : Int32) (v3 : Int32) : Option (Int32 × mm_M) := mm_w (fun x => f_X10_lean_25 M v0 v1 v2 x) v3
theorem l_X10_lean_25 {g : mm_c} (C : mm_ok g cX10_lean "LessonCardsModel" (some .int) "lean" 4 1 25 0 0) {M : mm_M} {v0 : Option Nat} {v1 : Int32} {v2 : Int32} {v3 : Int32} {res : Int32 × mm_M} (hf : f_X10_lean_25w M v0 v1 v2 v3 = some res) (ko : (fun z => mm_q g 0 0 (some (mm_i z.1)) z.2) res) : mm_X g 0 0 M 25 [(0, mm_r v0), (1, mm_i v1), (2, mm_i v2), (3, mm_i v3)] [] :=
  mm_w_W (body := fun x => f_X10_lean_25 M v0 v1 v2 x) (Wh := h_X10_lean_25 g M v0 v1 v2) (ok := (fun z => mm_q g 0 0 (some (mm_i z.1)) z.2)) (x := v3) (fun x r hb ho => w_X10_lean_25 C hb ho) hf ko
noncomputable def f_X10_lean_23 (M : mm_M) (v0 : Option Nat) (v1 : Int32) (v2 : Int32) : Option (Int32 × mm_M) :=
  f_X10_lean_25w M v0 v1 v2 0
set_option maxRecDepth 20000 in
theorem w_X10_lean_23 {g : mm_c} (C : mm_ok g cX10_lean "LessonCardsModel" (some .int) "lean" 4 1 25 0 0) {M : mm_M} {v0 : Option Nat} {v1 : Int32} {v2 : Int32} {res : Int32 × mm_M} (hf : f_X10_lean_23 M v0 v1 v2 = some res) (ko : (fun z => mm_q g 0 0 (some (mm_i z.1)) z.2) res) : mm_X g 0 0 M 23 [(0, mm_r v0), (1, mm_i v1), (2, mm_i v2)] [] := by
  unfold f_X10_lean_23 at hf
  refine xr_iconst 24 C (v := 0) dX10_lean_23 (by decide) rfl ?_
  refine xr_istore_n 25 C dX10_lean_24 rfl (by decide) rfl [(3, mm_i 0), (0, mm_r v0), (1, mm_i v1), (2, mm_i v2)] rfl ?_
  refine xr_sub [1, 2, 3, 0] (lv2 := [(0, mm_r v0), (1, mm_i v1), (2, mm_i v2), (3, mm_i 0)]) rfl ?_
  exact l_X10_lean_25 C hf ko
noncomputable def f_X10_lean_16 (M : mm_M) (v0 : Option Nat) (v1 : Int32) (v2 : Int32) : Option (Int32 × mm_M) :=
  if v1 = v2 then f_X10_lean_21 M else f_X10_lean_23 M v0 v1 v2
set_option maxRecDepth 20000 in
theorem w_X10_lean_16 {g : mm_c} (C : mm_ok g cX10_lean "LessonCardsModel" (some .int) "lean" 4 1 25 0 0) {M : mm_M} {v0 : Option Nat} {v1 : Int32} {v2 : Int32} {res : Int32 × mm_M} (hf : f_X10_lean_16 M v0 v1 v2 = some res) (ko : (fun z => mm_q g 0 0 (some (mm_i z.1)) z.2) res) : mm_X g 0 0 M 16 [(0, mm_r v0), (1, mm_i v1), (2, mm_i v2)] [] := by
  unfold f_X10_lean_16 at hf
  refine xr_iload_n 17 1 C dX10_lean_16 rfl rfl rfl ?_
  refine xr_iload_n 18 2 C dX10_lean_17 rfl rfl rfl ?_
  refine xr_icmp_ne 23 21 C dX10_lean_18 (by decide) rfl (fun hc => ?_) (fun hc => ?_)
  · replace hf := (if_neg hc).symm.trans hf
    exact w_X10_lean_23 C hf ko
  · replace hf := (if_pos hc).symm.trans hf
    refine xr_sub [] (lv2 := []) rfl ?_
    exact w_X10_lean_21 C hf ko
noncomputable def f_X10_lean_8 (M : mm_M) (v0 : Option Nat) (v1 : Int32) (v2 : Int32) : Option (Int32 × mm_M) :=
  (mm_rc M v0 11).bind fun u10 =>
  (f_X10_isCard M v0 v2).bind fun x10 =>
  if x10 = 0 then f_X10_lean_21 M else f_X10_lean_16 M v0 v1 v2
set_option maxRecDepth 20000 in
theorem w_X10_lean_8 {g : mm_c} (C : mm_ok g cX10_lean "LessonCardsModel" (some .int) "lean" 4 1 25 0 0) {M : mm_M} {v0 : Option Nat} {v1 : Int32} {v2 : Int32} {res : Int32 × mm_M} (hf : f_X10_lean_8 M v0 v1 v2 = some res) (ko : (fun z => mm_q g 0 0 (some (mm_i z.1)) z.2) res) : mm_X g 0 0 M 8 [(0, mm_r v0), (1, mm_i v1), (2, mm_i v2)] [] := by
  unfold f_X10_lean_8 at hf
  refine xr_aload_n 9 0 C dX10_lean_8 rfl rfl rfl ?_
  refine xr_iload_n 10 2 C dX10_lean_9 rfl rfl rfl ?_
  obtain ⟨u10, g10, hf⟩ := mm_bd_e hf
  obtain ⟨x10, h10, hf⟩ := mm_bd_e hf
  refine xr_callV 13 C [mm_i v2] cm_X10_119 (fun l G cy => c_X10_isCard l G cy h10) g10 rfl rfl ⟨⟨Nat.le_of_ble_eq_true rfl, Nat.le_of_ble_eq_true rfl⟩, (Nat.le_of_ble_eq_true rfl), (Nat.le_of_ble_eq_true rfl)⟩ (Nat.le_of_ble_eq_true rfl) dX10_lean_10 rfl ?_
  refine xr_if_eq 21 16 C dX10_lean_13 (by decide) rfl (fun hc => ?_) (fun hc => ?_)
  · replace hf := (if_pos hc).symm.trans hf
    refine xr_sub [] (lv2 := []) rfl ?_
    exact w_X10_lean_21 C hf ko
  · replace hf := (if_neg hc).symm.trans hf
    exact w_X10_lean_16 C hf ko
noncomputable def f_X10_lean_0 (M : mm_M) (v0 : Option Nat) (v1 : Int32) (v2 : Int32) : Option (Int32 × mm_M) :=
  (mm_rc M v0 11).bind fun u2 =>
  (f_X10_isCard M v0 v1).bind fun x2 =>
  if x2 = 0 then f_X10_lean_21 M else f_X10_lean_8 M v0 v1 v2
set_option maxRecDepth 20000 in
theorem w_X10_lean_0 {g : mm_c} (C : mm_ok g cX10_lean "LessonCardsModel" (some .int) "lean" 4 1 25 0 0) {M : mm_M} {v0 : Option Nat} {v1 : Int32} {v2 : Int32} {res : Int32 × mm_M} (hf : f_X10_lean_0 M v0 v1 v2 = some res) (ko : (fun z => mm_q g 0 0 (some (mm_i z.1)) z.2) res) : mm_X g 0 0 M 0 [(0, mm_r v0), (1, mm_i v1), (2, mm_i v2)] [] := by
  unfold f_X10_lean_0 at hf
  refine xr_aload_n 1 0 C dX10_lean_0 rfl rfl rfl ?_
  refine xr_iload_n 2 1 C dX10_lean_1 rfl rfl rfl ?_
  obtain ⟨u2, g2, hf⟩ := mm_bd_e hf
  obtain ⟨x2, h2, hf⟩ := mm_bd_e hf
  refine xr_callV 5 C [mm_i v1] cm_X10_119 (fun l G cy => c_X10_isCard l G cy h2) g2 rfl rfl ⟨⟨Nat.le_of_ble_eq_true rfl, Nat.le_of_ble_eq_true rfl⟩, (Nat.le_of_ble_eq_true rfl), (Nat.le_of_ble_eq_true rfl)⟩ (Nat.le_of_ble_eq_true rfl) dX10_lean_2 rfl ?_
  refine xr_if_eq 21 8 C dX10_lean_5 (by decide) rfl (fun hc => ?_) (fun hc => ?_)
  · replace hf := (if_pos hc).symm.trans hf
    refine xr_sub [] (lv2 := []) rfl ?_
    exact w_X10_lean_21 C hf ko
  · replace hf := (if_neg hc).symm.trans hf
    exact w_X10_lean_8 C hf ko
noncomputable def f_X10_lean (M : mm_M) (v0 : Option Nat) (v1 : Int32) (v2 : Int32) : Option (Int32 × mm_M) := f_X10_lean_0 M v0 v1 v2
theorem c_X10_lean (l : Launch) (G : va_G) (cy : Nat → ClassId) {M : mm_M} {v0 : Option Nat} {v1 : Int32} {v2 : Int32} {r : Int32} {M1 : mm_M} (hf : f_X10_lean M v0 v1 v2 = some (r, M1)) : mm_Met l yX10_lean cX10_lean 4 (some .int) 1 25 0 0 G cy [mm_r v0, mm_i v1, mm_i v2] M (some (mm_i r)) M1 :=
  mm_enter (by decide) (Nat.le_of_ble_eq_true rfl) (fun p e R s m args below meth c Q C hq => xr_sub [0, 1, 2] (lv2 := [(0, mm_r v0), (1, mm_i v1), (2, mm_i v2)]) rfl (w_X10_lean_0 C hf hq))
noncomputable def f_X10_rule_9 (M : mm_M) : Option (Int32 × mm_M) :=
  some ((-1), M)
set_option maxRecDepth 20000 in
theorem w_X10_rule_9 {g : mm_c} (C : mm_ok g cX10_rule "LessonCardsModel" (some .int) "rule" 3 1 22 0 0) {M : mm_M} {res : Int32 × mm_M} (hf : f_X10_rule_9 M = some res) (ko : (fun z => mm_q g 0 0 (some (mm_i z.1)) z.2) res) : mm_X g 0 0 M 9 [] [] := by
  unfold f_X10_rule_9 at hf
  refine xr_iconst 10 C (v := (-1)) dX10_rule_9 (by decide) rfl ?_
  obtain rfl := Option.some.inj hf
  exact xr_iret C ko ⟨(Nat.le_of_ble_eq_true rfl), (Nat.le_of_ble_eq_true rfl)⟩ dX10_rule_10
noncomputable def f_X10_rule_11 (M : mm_M) (v0 : Option Nat) (v1 : Int32) : Option (Int32 × mm_M) :=
  (mm_fI M v0 11 4).bind fun x12 =>
  (mm_pI M v0 11 4 v1).bind fun M18 =>
  some (x12, M18)
set_option maxRecDepth 20000 in
theorem w_X10_rule_11 {g : mm_c} (C : mm_ok g cX10_rule "LessonCardsModel" (some .int) "rule" 3 1 22 0 0) {M : mm_M} {v0 : Option Nat} {v1 : Int32} {res : Int32 × mm_M} (hf : f_X10_rule_11 M v0 v1 = some res) (ko : (fun z => mm_q g 0 0 (some (mm_i z.1)) z.2) res) : mm_X g 0 0 M 11 [(0, mm_r v0), (1, mm_i v1)] [] := by
  unfold f_X10_rule_11 at hf
  refine xr_aload_n 12 0 C dX10_rule_11 rfl rfl rfl ?_
  obtain ⟨x12, h12, hf⟩ := mm_bd_e hf
  refine xr_getI 15 C cf_X10_131 rfl h12 dX10_rule_12 rfl ?_
  refine xr_istore_n 16 C dX10_rule_15 rfl (by decide) rfl [(2, mm_i x12), (0, mm_r v0), (1, mm_i v1)] rfl ?_
  refine xr_aload_n 17 1 C dX10_rule_16 rfl rfl rfl ?_
  refine xr_iload_n 18 2 C dX10_rule_17 rfl rfl rfl ?_
  obtain ⟨M18, h18, hf⟩ := mm_bd_e hf
  refine xr_putI 21 C cf_X10_131 (fun h => by cases h) h18 dX10_rule_18 rfl ?_
  refine xr_iload_n 22 0 C dX10_rule_21 rfl rfl rfl ?_
  obtain rfl := Option.some.inj hf
  exact xr_iret C ko ⟨(Nat.le_of_ble_eq_true rfl), (Nat.le_of_ble_eq_true rfl)⟩ dX10_rule_22
noncomputable def f_X10_rule_0 (M : mm_M) (v0 : Option Nat) (v1 : Int32) : Option (Int32 × mm_M) :=
  (f_X10_within M v1 0 2).bind fun x3 =>
  if x3 = 0 then f_X10_rule_9 M else f_X10_rule_11 M v0 v1
set_option maxRecDepth 20000 in
theorem w_X10_rule_0 {g : mm_c} (C : mm_ok g cX10_rule "LessonCardsModel" (some .int) "rule" 3 1 22 0 0) {M : mm_M} {v0 : Option Nat} {v1 : Int32} {res : Int32 × mm_M} (hf : f_X10_rule_0 M v0 v1 = some res) (ko : (fun z => mm_q g 0 0 (some (mm_i z.1)) z.2) res) : mm_X g 0 0 M 0 [(0, mm_r v0), (1, mm_i v1)] [] := by
  unfold f_X10_rule_0 at hf
  refine xr_iload_n 1 1 C dX10_rule_0 rfl rfl rfl ?_
  refine xr_iconst 2 C (v := 0) dX10_rule_1 (by decide) rfl ?_
  refine xr_iconst 3 C (v := 2) dX10_rule_2 (by decide) rfl ?_
  obtain ⟨x3, h3, hf⟩ := mm_bd_e hf
  refine xr_callS 6 C [mm_i v1, mm_i 0, mm_i 2] cm_X10_123 (fun l G cy => c_X10_within l G cy h3) rfl rfl ⟨⟨Nat.le_of_ble_eq_true rfl, Nat.le_of_ble_eq_true rfl⟩, (Nat.le_of_ble_eq_true rfl), (Nat.le_of_ble_eq_true rfl)⟩ (Nat.le_of_ble_eq_true rfl) dX10_rule_3 rfl ?_
  refine xr_if_ne 11 9 C dX10_rule_6 (by decide) rfl (fun hc => ?_) (fun hc => ?_)
  · replace hf := (if_neg hc).symm.trans hf
    exact w_X10_rule_11 C hf ko
  · replace hf := (if_pos hc).symm.trans hf
    refine xr_sub [] (lv2 := []) rfl ?_
    exact w_X10_rule_9 C hf ko
noncomputable def f_X10_rule (M : mm_M) (v0 : Option Nat) (v1 : Int32) : Option (Int32 × mm_M) := f_X10_rule_0 M v0 v1
theorem c_X10_rule (l : Launch) (G : va_G) (cy : Nat → ClassId) {M : mm_M} {v0 : Option Nat} {v1 : Int32} {r : Int32} {M1 : mm_M} (hf : f_X10_rule M v0 v1 = some (r, M1)) : mm_Met l yX10_rule cX10_rule 3 (some .int) 1 22 0 0 G cy [mm_r v0, mm_i v1] M (some (mm_i r)) M1 :=
  mm_enter (by decide) (Nat.le_of_ble_eq_true rfl) (fun p e R s m args below meth c Q C hq => xr_sub [0, 1] (lv2 := [(0, mm_r v0), (1, mm_i v1)]) rfl (w_X10_rule_0 C hf hq))
noncomputable def f_X10_table_19 (M : mm_M) : Option (Int32 × mm_M) :=
  some ((-1), M)
set_option maxRecDepth 20000 in
theorem w_X10_table_19 {g : mm_c} (C : mm_ok g cX10_table "LessonCardsModel" (some .int) "table" 4 1 22 0 0) {M : mm_M} {res : Int32 × mm_M} (hf : f_X10_table_19 M = some res) (ko : (fun z => mm_q g 0 0 (some (mm_i z.1)) z.2) res) : mm_X g 0 0 M 19 [] [] := by
  unfold f_X10_table_19 at hf
  refine xr_iconst 20 C (v := (-1)) dX10_table_19 (by decide) rfl ?_
  obtain rfl := Option.some.inj hf
  exact xr_iret C ko ⟨(Nat.le_of_ble_eq_true rfl), (Nat.le_of_ble_eq_true rfl)⟩ dX10_table_20
noncomputable def f_X10_table_21 (M : mm_M) (v0 : Option Nat) (v1 : Int32) (v2 : Int32) : Option (Int32 × mm_M) :=
  (mm_fR M v0 11 5).bind fun x22 =>
  (mm_aI M x22 12 v1).bind fun x26 =>
  (mm_fR M v0 11 5).bind fun x29 =>
  (mm_tI M x29 v1 v2).bind fun M34 =>
  some (x26, M34)
set_option maxRecDepth 20000 in
theorem w_X10_table_21 {g : mm_c} (C : mm_ok g cX10_table "LessonCardsModel" (some .int) "table" 4 1 22 0 0) {M : mm_M} {v0 : Option Nat} {v1 : Int32} {v2 : Int32} {res : Int32 × mm_M} (hf : f_X10_table_21 M v0 v1 v2 = some res) (ko : (fun z => mm_q g 0 0 (some (mm_i z.1)) z.2) res) : mm_X g 0 0 M 21 [(0, mm_r v0), (1, mm_i v1), (2, mm_i v2)] [] := by
  unfold f_X10_table_21 at hf
  refine xr_aload_n 22 0 C dX10_table_21 rfl rfl rfl ?_
  obtain ⟨x22, h22, hf⟩ := mm_bd_e hf
  refine xr_getR 25 C cf_X10_19 rfl h22 dX10_table_22 rfl ?_
  refine xr_iload_n 26 1 C dX10_table_25 rfl rfl rfl ?_
  obtain ⟨x26, h26, hf⟩ := mm_bd_e hf
  refine xr_aldI 27 C h26 dX10_table_26 rfl ?_
  refine xr_istore_n 28 C dX10_table_27 rfl (by decide) rfl [(3, mm_i x26), (0, mm_r v0), (1, mm_i v1), (2, mm_i v2)] rfl ?_
  refine xr_aload_n 29 1 C dX10_table_28 rfl rfl rfl ?_
  obtain ⟨x29, h29, hf⟩ := mm_bd_e hf
  refine xr_getR 32 C cf_X10_19 rfl h29 dX10_table_29 rfl ?_
  refine xr_iload_n 33 2 C dX10_table_32 rfl rfl rfl ?_
  refine xr_iload_n 34 3 C dX10_table_33 rfl rfl rfl ?_
  obtain ⟨M34, h34, hf⟩ := mm_bd_e hf
  refine xr_astI 35 C h34 dX10_table_34 rfl ?_
  refine xr_iload_n 36 0 C dX10_table_35 rfl rfl rfl ?_
  obtain rfl := Option.some.inj hf
  exact xr_iret C ko ⟨(Nat.le_of_ble_eq_true rfl), (Nat.le_of_ble_eq_true rfl)⟩ dX10_table_36
noncomputable def f_X10_table_9 (M : mm_M) (v0 : Option Nat) (v1 : Int32) (v2 : Int32) : Option (Int32 × mm_M) :=
  (f_X10_within M v2 1 100000).bind fun x13 =>
  if x13 = 0 then f_X10_table_19 M else f_X10_table_21 M v0 v1 v2
set_option maxRecDepth 20000 in
theorem w_X10_table_9 {g : mm_c} (C : mm_ok g cX10_table "LessonCardsModel" (some .int) "table" 4 1 22 0 0) {M : mm_M} {v0 : Option Nat} {v1 : Int32} {v2 : Int32} {res : Int32 × mm_M} (hf : f_X10_table_9 M v0 v1 v2 = some res) (ko : (fun z => mm_q g 0 0 (some (mm_i z.1)) z.2) res) : mm_X g 0 0 M 9 [(0, mm_r v0), (1, mm_i v1), (2, mm_i v2)] [] := by
  unfold f_X10_table_9 at hf
  refine xr_iload_n 10 2 C dX10_table_9 rfl rfl rfl ?_
  refine xr_iconst 11 C (v := 1) dX10_table_10 (by decide) rfl ?_
  refine xr_ldc 13 C wd_1107 dX10_table_11 rfl ?_
  obtain ⟨x13, h13, hf⟩ := mm_bd_e hf
  refine xr_callS 16 C [mm_i v2, mm_i 1, mm_i 100000] cm_X10_123 (fun l G cy => c_X10_within l G cy h13) rfl rfl ⟨⟨Nat.le_of_ble_eq_true rfl, Nat.le_of_ble_eq_true rfl⟩, (Nat.le_of_ble_eq_true rfl), (Nat.le_of_ble_eq_true rfl)⟩ (Nat.le_of_ble_eq_true rfl) dX10_table_13 rfl ?_
  refine xr_if_ne 21 19 C dX10_table_16 (by decide) rfl (fun hc => ?_) (fun hc => ?_)
  · replace hf := (if_neg hc).symm.trans hf
    exact w_X10_table_21 C hf ko
  · replace hf := (if_pos hc).symm.trans hf
    refine xr_sub [] (lv2 := []) rfl ?_
    exact w_X10_table_19 C hf ko
noncomputable def f_X10_table_0 (M : mm_M) (v0 : Option Nat) (v1 : Int32) (v2 : Int32) : Option (Int32 × mm_M) :=
  (f_X10_within M v1 0 3).bind fun x3 =>
  if x3 = 0 then f_X10_table_19 M else f_X10_table_9 M v0 v1 v2
set_option maxRecDepth 20000 in
theorem w_X10_table_0 {g : mm_c} (C : mm_ok g cX10_table "LessonCardsModel" (some .int) "table" 4 1 22 0 0) {M : mm_M} {v0 : Option Nat} {v1 : Int32} {v2 : Int32} {res : Int32 × mm_M} (hf : f_X10_table_0 M v0 v1 v2 = some res) (ko : (fun z => mm_q g 0 0 (some (mm_i z.1)) z.2) res) : mm_X g 0 0 M 0 [(0, mm_r v0), (1, mm_i v1), (2, mm_i v2)] [] := by
  unfold f_X10_table_0 at hf
  refine xr_iload_n 1 1 C dX10_table_0 rfl rfl rfl ?_
  refine xr_iconst 2 C (v := 0) dX10_table_1 (by decide) rfl ?_
  refine xr_iconst 3 C (v := 3) dX10_table_2 (by decide) rfl ?_
  obtain ⟨x3, h3, hf⟩ := mm_bd_e hf
  refine xr_callS 6 C [mm_i v1, mm_i 0, mm_i 3] cm_X10_123 (fun l G cy => c_X10_within l G cy h3) rfl rfl ⟨⟨Nat.le_of_ble_eq_true rfl, Nat.le_of_ble_eq_true rfl⟩, (Nat.le_of_ble_eq_true rfl), (Nat.le_of_ble_eq_true rfl)⟩ (Nat.le_of_ble_eq_true rfl) dX10_table_3 rfl ?_
  refine xr_if_eq 19 9 C dX10_table_6 (by decide) rfl (fun hc => ?_) (fun hc => ?_)
  · replace hf := (if_pos hc).symm.trans hf
    refine xr_sub [] (lv2 := []) rfl ?_
    exact w_X10_table_19 C hf ko
  · replace hf := (if_neg hc).symm.trans hf
    exact w_X10_table_9 C hf ko
noncomputable def f_X10_table (M : mm_M) (v0 : Option Nat) (v1 : Int32) (v2 : Int32) : Option (Int32 × mm_M) := f_X10_table_0 M v0 v1 v2
theorem c_X10_table (l : Launch) (G : va_G) (cy : Nat → ClassId) {M : mm_M} {v0 : Option Nat} {v1 : Int32} {v2 : Int32} {r : Int32} {M1 : mm_M} (hf : f_X10_table M v0 v1 v2 = some (r, M1)) : mm_Met l yX10_table cX10_table 4 (some .int) 1 22 0 0 G cy [mm_r v0, mm_i v1, mm_i v2] M (some (mm_i r)) M1 :=
  mm_enter (by decide) (Nat.le_of_ble_eq_true rfl) (fun p e R s m args below meth c Q C hq => xr_sub [0, 1, 2] (lv2 := [(0, mm_r v0), (1, mm_i v1), (2, mm_i v2)]) rfl (w_X10_table_0 C hf hq))
noncomputable def f_X10_most_21 (M : mm_M) : Option (Int32 × mm_M) :=
  some ((-1), M)
set_option maxRecDepth 20000 in
theorem w_X10_most_21 {g : mm_c} (C : mm_ok g cX10_most "LessonCardsModel" (some .int) "most" 3 1 22 0 0) {M : mm_M} {res : Int32 × mm_M} (hf : f_X10_most_21 M = some res) (ko : (fun z => mm_q g 0 0 (some (mm_i z.1)) z.2) res) : mm_X g 0 0 M 21 [] [] := by
  unfold f_X10_most_21 at hf
  refine xr_iconst 22 C (v := (-1)) dX10_most_21 (by decide) rfl ?_
  obtain rfl := Option.some.inj hf
  exact xr_iret C ko ⟨(Nat.le_of_ble_eq_true rfl), (Nat.le_of_ble_eq_true rfl)⟩ dX10_most_22
noncomputable def f_X10_most_23 (M : mm_M) (v0 : Option Nat) (v1 : Int32) (v2 : Int32) : Option (Int32 × mm_M) :=
  (mm_pI M v0 11 6 v1).bind fun M25 =>
  (mm_pI M25 v0 11 7 v2).bind fun M30 =>
  some (1, M30)
set_option maxRecDepth 20000 in
theorem w_X10_most_23 {g : mm_c} (C : mm_ok g cX10_most "LessonCardsModel" (some .int) "most" 3 1 22 0 0) {M : mm_M} {v0 : Option Nat} {v1 : Int32} {v2 : Int32} {res : Int32 × mm_M} (hf : f_X10_most_23 M v0 v1 v2 = some res) (ko : (fun z => mm_q g 0 0 (some (mm_i z.1)) z.2) res) : mm_X g 0 0 M 23 [(0, mm_r v0), (1, mm_i v1), (2, mm_i v2)] [] := by
  unfold f_X10_most_23 at hf
  refine xr_aload_n 24 0 C dX10_most_23 rfl rfl rfl ?_
  refine xr_iload_n 25 1 C dX10_most_24 rfl rfl rfl ?_
  obtain ⟨M25, h25, hf⟩ := mm_bd_e hf
  refine xr_putI 28 C cf_X10_22 (fun h => by cases h) h25 dX10_most_25 rfl ?_
  refine xr_aload_n 29 0 C dX10_most_28 rfl rfl rfl ?_
  refine xr_iload_n 30 2 C dX10_most_29 rfl rfl rfl ?_
  obtain ⟨M30, h30, hf⟩ := mm_bd_e hf
  refine xr_putI 33 C cf_X10_26 (fun h => by cases h) h30 dX10_most_30 rfl ?_
  refine xr_iconst 34 C (v := 1) dX10_most_33 (by decide) rfl ?_
  obtain rfl := Option.some.inj hf
  exact xr_iret C ko ⟨(Nat.le_of_ble_eq_true rfl), (Nat.le_of_ble_eq_true rfl)⟩ dX10_most_34
noncomputable def f_X10_most_11 (M : mm_M) (v0 : Option Nat) (v1 : Int32) (v2 : Int32) : Option (Int32 × mm_M) :=
  (f_X10_within M v2 0 100).bind fun x15 =>
  if x15 = 0 then f_X10_most_21 M else f_X10_most_23 M v0 v1 v2
set_option maxRecDepth 20000 in
theorem w_X10_most_11 {g : mm_c} (C : mm_ok g cX10_most "LessonCardsModel" (some .int) "most" 3 1 22 0 0) {M : mm_M} {v0 : Option Nat} {v1 : Int32} {v2 : Int32} {res : Int32 × mm_M} (hf : f_X10_most_11 M v0 v1 v2 = some res) (ko : (fun z => mm_q g 0 0 (some (mm_i z.1)) z.2) res) : mm_X g 0 0 M 11 [(0, mm_r v0), (1, mm_i v1), (2, mm_i v2)] [] := by
  unfold f_X10_most_11 at hf
  refine xr_iload_n 12 2 C dX10_most_11 rfl rfl rfl ?_
  refine xr_iconst 13 C (v := 0) dX10_most_12 (by decide) rfl ?_
  refine xr_bipush 15 C (v := 100) dX10_most_13 (by decide) rfl ?_
  obtain ⟨x15, h15, hf⟩ := mm_bd_e hf
  refine xr_callS 18 C [mm_i v2, mm_i 0, mm_i 100] cm_X10_123 (fun l G cy => c_X10_within l G cy h15) rfl rfl ⟨⟨Nat.le_of_ble_eq_true rfl, Nat.le_of_ble_eq_true rfl⟩, (Nat.le_of_ble_eq_true rfl), (Nat.le_of_ble_eq_true rfl)⟩ (Nat.le_of_ble_eq_true rfl) dX10_most_15 rfl ?_
  refine xr_if_ne 23 21 C dX10_most_18 (by decide) rfl (fun hc => ?_) (fun hc => ?_)
  · replace hf := (if_neg hc).symm.trans hf
    exact w_X10_most_23 C hf ko
  · replace hf := (if_pos hc).symm.trans hf
    refine xr_sub [] (lv2 := []) rfl ?_
    exact w_X10_most_21 C hf ko
noncomputable def f_X10_most_0 (M : mm_M) (v0 : Option Nat) (v1 : Int32) (v2 : Int32) : Option (Int32 × mm_M) :=
  (f_X10_within M v1 0 400).bind fun x5 =>
  if x5 = 0 then f_X10_most_21 M else f_X10_most_11 M v0 v1 v2
set_option maxRecDepth 20000 in
theorem w_X10_most_0 {g : mm_c} (C : mm_ok g cX10_most "LessonCardsModel" (some .int) "most" 3 1 22 0 0) {M : mm_M} {v0 : Option Nat} {v1 : Int32} {v2 : Int32} {res : Int32 × mm_M} (hf : f_X10_most_0 M v0 v1 v2 = some res) (ko : (fun z => mm_q g 0 0 (some (mm_i z.1)) z.2) res) : mm_X g 0 0 M 0 [(0, mm_r v0), (1, mm_i v1), (2, mm_i v2)] [] := by
  unfold f_X10_most_0 at hf
  refine xr_iload_n 1 1 C dX10_most_0 rfl rfl rfl ?_
  refine xr_iconst 2 C (v := 0) dX10_most_1 (by decide) rfl ?_
  refine xr_sipush 5 C (v := 400) dX10_most_2 (by decide) rfl ?_
  obtain ⟨x5, h5, hf⟩ := mm_bd_e hf
  refine xr_callS 8 C [mm_i v1, mm_i 0, mm_i 400] cm_X10_123 (fun l G cy => c_X10_within l G cy h5) rfl rfl ⟨⟨Nat.le_of_ble_eq_true rfl, Nat.le_of_ble_eq_true rfl⟩, (Nat.le_of_ble_eq_true rfl), (Nat.le_of_ble_eq_true rfl)⟩ (Nat.le_of_ble_eq_true rfl) dX10_most_5 rfl ?_
  refine xr_if_eq 21 11 C dX10_most_8 (by decide) rfl (fun hc => ?_) (fun hc => ?_)
  · replace hf := (if_pos hc).symm.trans hf
    refine xr_sub [] (lv2 := []) rfl ?_
    exact w_X10_most_21 C hf ko
  · replace hf := (if_neg hc).symm.trans hf
    exact w_X10_most_11 C hf ko
noncomputable def f_X10_most (M : mm_M) (v0 : Option Nat) (v1 : Int32) (v2 : Int32) : Option (Int32 × mm_M) := f_X10_most_0 M v0 v1 v2
theorem c_X10_most (l : Launch) (G : va_G) (cy : Nat → ClassId) {M : mm_M} {v0 : Option Nat} {v1 : Int32} {v2 : Int32} {r : Int32} {M1 : mm_M} (hf : f_X10_most M v0 v1 v2 = some (r, M1)) : mm_Met l yX10_most cX10_most 3 (some .int) 1 22 0 0 G cy [mm_r v0, mm_i v1, mm_i v2] M (some (mm_i r)) M1 :=
  mm_enter (by decide) (Nat.le_of_ble_eq_true rfl) (fun p e R s m args below meth c Q C hq => xr_sub [0, 1, 2] (lv2 := [(0, mm_r v0), (1, mm_i v1), (2, mm_i v2)]) rfl (w_X10_most_0 C hf hq))
noncomputable def f_X10_take_0 (M : mm_M) (v0 : Option Nat) (v1 : Int32) : Option (mm_M) :=
  (mm_fR M v0 11 13).bind fun x2 =>
  (mm_aI M x2 12 v1).bind fun x6 =>
  (mm_pI M v0 11 29 x6).bind fun M7 =>
  (mm_fR M7 v0 11 14).bind fun x12 =>
  (mm_aI M7 x12 12 v1).bind fun x16 =>
  (mm_pI M7 v0 11 30 x16).bind fun M17 =>
  (mm_fR M17 v0 11 15).bind fun x22 =>
  (mm_aI M17 x22 12 v1).bind fun x26 =>
  (mm_pI M17 v0 11 31 x26).bind fun M27 =>
  (mm_fR M27 v0 11 16).bind fun x32 =>
  (mm_aI M27 x32 12 v1).bind fun x36 =>
  (mm_pI M27 v0 11 32 x36).bind fun M37 =>
  (mm_fR M37 v0 11 17).bind fun x42 =>
  (mm_aI M37 x42 12 v1).bind fun x46 =>
  (mm_pI M37 v0 11 33 x46).bind fun M47 =>
  some M47
set_option maxRecDepth 20000 in
theorem w_X10_take_0 {g : mm_c} (C : mm_ok g cX10_take "LessonCardsModel" none "take" 2 0 0 0 0) {M : mm_M} {v0 : Option Nat} {v1 : Int32} {res : mm_M} (hf : f_X10_take_0 M v0 v1 = some res) (ko : (fun z => mm_q g 0 0 none z) res) : mm_X g 0 0 M 0 [(0, mm_r v0), (1, mm_i v1)] [] := by
  unfold f_X10_take_0 at hf
  refine xr_aload_n 1 0 C dX10_take_0 rfl rfl rfl ?_
  refine xr_aload_n 2 0 C dX10_take_1 rfl rfl rfl ?_
  obtain ⟨x2, h2, hf⟩ := mm_bd_e hf
  refine xr_getR 5 C cf_X10_45 rfl h2 dX10_take_2 rfl ?_
  refine xr_iload_n 6 1 C dX10_take_5 rfl rfl rfl ?_
  obtain ⟨x6, h6, hf⟩ := mm_bd_e hf
  refine xr_aldI 7 C h6 dX10_take_6 rfl ?_
  obtain ⟨M7, h7, hf⟩ := mm_bd_e hf
  refine xr_putI 10 C cf_X10_135 (fun h => by cases h) h7 dX10_take_7 rfl ?_
  refine xr_aload_n 11 0 C dX10_take_10 rfl rfl rfl ?_
  refine xr_aload_n 12 0 C dX10_take_11 rfl rfl rfl ?_
  obtain ⟨x12, h12, hf⟩ := mm_bd_e hf
  refine xr_getR 15 C cf_X10_48 rfl h12 dX10_take_12 rfl ?_
  refine xr_iload_n 16 1 C dX10_take_15 rfl rfl rfl ?_
  obtain ⟨x16, h16, hf⟩ := mm_bd_e hf
  refine xr_aldI 17 C h16 dX10_take_16 rfl ?_
  obtain ⟨M17, h17, hf⟩ := mm_bd_e hf
  refine xr_putI 20 C cf_X10_138 (fun h => by cases h) h17 dX10_take_17 rfl ?_
  refine xr_aload_n 21 0 C dX10_take_20 rfl rfl rfl ?_
  refine xr_aload_n 22 0 C dX10_take_21 rfl rfl rfl ?_
  obtain ⟨x22, h22, hf⟩ := mm_bd_e hf
  refine xr_getR 25 C cf_X10_51 rfl h22 dX10_take_22 rfl ?_
  refine xr_iload_n 26 1 C dX10_take_25 rfl rfl rfl ?_
  obtain ⟨x26, h26, hf⟩ := mm_bd_e hf
  refine xr_aldI 27 C h26 dX10_take_26 rfl ?_
  obtain ⟨M27, h27, hf⟩ := mm_bd_e hf
  refine xr_putI 30 C cf_X10_141 (fun h => by cases h) h27 dX10_take_27 rfl ?_
  refine xr_aload_n 31 0 C dX10_take_30 rfl rfl rfl ?_
  refine xr_aload_n 32 0 C dX10_take_31 rfl rfl rfl ?_
  obtain ⟨x32, h32, hf⟩ := mm_bd_e hf
  refine xr_getR 35 C cf_X10_54 rfl h32 dX10_take_32 rfl ?_
  refine xr_iload_n 36 1 C dX10_take_35 rfl rfl rfl ?_
  obtain ⟨x36, h36, hf⟩ := mm_bd_e hf
  refine xr_aldI 37 C h36 dX10_take_36 rfl ?_
  obtain ⟨M37, h37, hf⟩ := mm_bd_e hf
  refine xr_putI 40 C cf_X10_144 (fun h => by cases h) h37 dX10_take_37 rfl ?_
  refine xr_aload_n 41 0 C dX10_take_40 rfl rfl rfl ?_
  refine xr_aload_n 42 0 C dX10_take_41 rfl rfl rfl ?_
  obtain ⟨x42, h42, hf⟩ := mm_bd_e hf
  refine xr_getR 45 C cf_X10_57 rfl h42 dX10_take_42 rfl ?_
  refine xr_iload_n 46 1 C dX10_take_45 rfl rfl rfl ?_
  obtain ⟨x46, h46, hf⟩ := mm_bd_e hf
  refine xr_aldI 47 C h46 dX10_take_46 rfl ?_
  obtain ⟨M47, h47, hf⟩ := mm_bd_e hf
  refine xr_putI 50 C cf_X10_147 (fun h => by cases h) h47 dX10_take_47 rfl ?_
  obtain rfl := Option.some.inj hf
  exact xr_vret C ko ⟨(Nat.le_of_ble_eq_true rfl), (Nat.le_of_ble_eq_true rfl)⟩ dX10_take_50
noncomputable def f_X10_take (M : mm_M) (v0 : Option Nat) (v1 : Int32) : Option (mm_M) := f_X10_take_0 M v0 v1
theorem c_X10_take (l : Launch) (G : va_G) (cy : Nat → ClassId) {M : mm_M} {v0 : Option Nat} {v1 : Int32} {M1 : mm_M} (hf : f_X10_take M v0 v1 = some M1) : mm_Met l yX10_take cX10_take 2 none 0 0 0 0 G cy [mm_r v0, mm_i v1] M none M1 :=
  mm_enter (by decide) (Nat.le_of_ble_eq_true rfl) (fun p e R s m args below meth c Q C hq => xr_sub [0, 1] (lv2 := [(0, mm_r v0), (1, mm_i v1)]) rfl (w_X10_take_0 C hf hq))
noncomputable def f_X10_begin_0 (M : mm_M) (v0 : Option Nat) : Option (mm_M) :=
  (mm_pI M v0 11 29 0).bind fun M2 =>
  (mm_pI M2 v0 11 30 2500).bind fun M9 =>
  (mm_pI M9 v0 11 31 0).bind fun M14 =>
  (mm_pI M14 v0 11 32 (-1)).bind fun M19 =>
  (mm_pI M19 v0 11 33 0).bind fun M24 =>
  some M24
set_option maxRecDepth 20000 in
theorem w_X10_begin_0 {g : mm_c} (C : mm_ok g cX10_begin "LessonCardsModel" none "begin" 1 0 0 0 0) {M : mm_M} {v0 : Option Nat} {res : mm_M} (hf : f_X10_begin_0 M v0 = some res) (ko : (fun z => mm_q g 0 0 none z) res) : mm_X g 0 0 M 0 [(0, mm_r v0)] [] := by
  unfold f_X10_begin_0 at hf
  refine xr_aload_n 1 0 C dX10_begin_0 rfl rfl rfl ?_
  refine xr_iconst 2 C (v := 0) dX10_begin_1 (by decide) rfl ?_
  obtain ⟨M2, h2, hf⟩ := mm_bd_e hf
  refine xr_putI 5 C cf_X10_135 (fun h => by cases h) h2 dX10_begin_2 rfl ?_
  refine xr_aload_n 6 0 C dX10_begin_5 rfl rfl rfl ?_
  refine xr_sipush 9 C (v := 2500) dX10_begin_6 (by decide) rfl ?_
  obtain ⟨M9, h9, hf⟩ := mm_bd_e hf
  refine xr_putI 12 C cf_X10_138 (fun h => by cases h) h9 dX10_begin_9 rfl ?_
  refine xr_aload_n 13 0 C dX10_begin_12 rfl rfl rfl ?_
  refine xr_iconst 14 C (v := 0) dX10_begin_13 (by decide) rfl ?_
  obtain ⟨M14, h14, hf⟩ := mm_bd_e hf
  refine xr_putI 17 C cf_X10_141 (fun h => by cases h) h14 dX10_begin_14 rfl ?_
  refine xr_aload_n 18 0 C dX10_begin_17 rfl rfl rfl ?_
  refine xr_iconst 19 C (v := (-1)) dX10_begin_18 (by decide) rfl ?_
  obtain ⟨M19, h19, hf⟩ := mm_bd_e hf
  refine xr_putI 22 C cf_X10_144 (fun h => by cases h) h19 dX10_begin_19 rfl ?_
  refine xr_aload_n 23 0 C dX10_begin_22 rfl rfl rfl ?_
  refine xr_iconst 24 C (v := 0) dX10_begin_23 (by decide) rfl ?_
  obtain ⟨M24, h24, hf⟩ := mm_bd_e hf
  refine xr_putI 27 C cf_X10_147 (fun h => by cases h) h24 dX10_begin_24 rfl ?_
  obtain rfl := Option.some.inj hf
  exact xr_vret C ko ⟨(Nat.le_of_ble_eq_true rfl), (Nat.le_of_ble_eq_true rfl)⟩ dX10_begin_27
noncomputable def f_X10_begin (M : mm_M) (v0 : Option Nat) : Option (mm_M) := f_X10_begin_0 M v0
theorem c_X10_begin (l : Launch) (G : va_G) (cy : Nat → ClassId) {M : mm_M} {v0 : Option Nat} {M1 : mm_M} (hf : f_X10_begin M v0 = some M1) : mm_Met l yX10_begin cX10_begin 1 none 0 0 0 0 G cy [mm_r v0] M none M1 :=
  mm_enter (by decide) (Nat.le_of_ble_eq_true rfl) (fun p e R s m args below meth c Q C hq => xr_sub [0] (lv2 := [(0, mm_r v0)]) rfl (w_X10_begin_0 C hf hq))
def h_X10_chance_26 (g : mm_c) (M : mm_M) (v2 : Int64) : (Int32 × Int64) → Prop := fun x => mm_X g 0 0 M 26 [(2, mm_j v2), (4, mm_i x.1), (5, mm_j x.2)] []
noncomputable def f_X10_chance_38 (M : mm_M) (v2 : Int64) (v4 : Int32) (v5 : Int64) : Option ((Int32 × Int64) ⊕ (Int32)) :=
  some (.inl (((v4 * 9934) / 10000), (v5 + 1)))
set_option maxRecDepth 20000 in
theorem w_X10_chance_38 {g : mm_c} (C : mm_ok g cX10_chance "LessonCardsModel" (some .int) "chance" 7 0 0 0 0) {M : mm_M} {v2 : Int64} {v4 : Int32} {v5 : Int64} {res : (Int32 × Int64) ⊕ (Int32)} (hf : f_X10_chance_38 M v2 v4 v5 = some res) (ko : (mm_o (h_X10_chance_26 g M v2) (fun z => mm_q g 0 0 (some (mm_i z)) M)) res) : mm_X g 0 0 M 38 [(2, mm_j v2), (4, mm_i v4), (5, mm_j v5)] [] := by
  unfold f_X10_chance_38 at hf
  refine xr_iload 40 1 C dX10_chance_38 rfl rfl ?_
  refine xr_sipush 43 C (v := 9934) dX10_chance_40 (by decide) rfl ?_
  refine xr_imul 44 C dX10_chance_43 rfl ?_
  refine xr_sipush 47 C (v := 10000) dX10_chance_44 (by decide) rfl ?_
  refine xr_idiv 48 C dX10_chance_47 (by decide) rfl ?_
  refine xr_istore 50 C dX10_chance_48 (by decide) rfl [(4, mm_i ((v4 * 9934) / 10000)), (2, mm_j v2), (5, mm_j v5)] rfl ?_
  refine xr_lload 52 2 C dX10_chance_50 rfl rfl ?_
  refine xr_lconst 53 C (v := 1) dX10_chance_52 (by decide) rfl ?_
  refine xr_ladd 54 C dX10_chance_53 rfl ?_
  refine xr_lstore 56 C dX10_chance_54 (by decide) rfl [(5, mm_j (v5 + 1)), (4, mm_i ((v4 * 9934) / 10000)), (2, mm_j v2)] rfl ?_
  refine xr_goto 26 C dX10_chance_56 (by decide) ?_
  refine xr_sub [2, 1, 0] (lv2 := [(2, mm_j v2), (4, mm_i ((v4 * 9934) / 10000)), (5, mm_j (v5 + 1))]) rfl ?_
  obtain rfl := Option.some.inj hf
  exact ko
noncomputable def f_X10_chance_59 (M : mm_M) (v4 : Int32) : Option (Int32) :=
  some v4
set_option maxRecDepth 20000 in
theorem w_X10_chance_59 {g : mm_c} (C : mm_ok g cX10_chance "LessonCardsModel" (some .int) "chance" 7 0 0 0 0) {M : mm_M} {v4 : Int32} {res : Int32} (hf : f_X10_chance_59 M v4 = some res) (ko : (fun z => mm_q g 0 0 (some (mm_i z)) M) res) : mm_X g 0 0 M 59 [(4, mm_i v4)] [] := by
  unfold f_X10_chance_59 at hf
  refine xr_iload 61 0 C dX10_chance_59 rfl rfl ?_
  obtain rfl := Option.some.inj hf
  exact xr_iret C ko ⟨(Nat.le_of_ble_eq_true rfl), (Nat.le_of_ble_eq_true rfl)⟩ dX10_chance_61
noncomputable def f_X10_chance_33 (M : mm_M) (v2 : Int64) (v4 : Int32) (v5 : Int64) : Option ((Int32 × Int64) ⊕ (Int32)) :=
  if v4 ≤ 0 then mm_mp (f_X10_chance_59 M v4) else f_X10_chance_38 M v2 v4 v5
set_option maxRecDepth 20000 in
theorem w_X10_chance_33 {g : mm_c} (C : mm_ok g cX10_chance "LessonCardsModel" (some .int) "chance" 7 0 0 0 0) {M : mm_M} {v2 : Int64} {v4 : Int32} {v5 : Int64} {res : (Int32 × Int64) ⊕ (Int32)} (hf : f_X10_chance_33 M v2 v4 v5 = some res) (ko : (mm_o (h_X10_chance_26 g M v2) (fun z => mm_q g 0 0 (some (mm_i z)) M)) res) : mm_X g 0 0 M 33 [(2, mm_j v2), (4, mm_i v4), (5, mm_j v5)] [] := by
  unfold f_X10_chance_33 at hf
  refine xr_iload 35 1 C dX10_chance_33 rfl rfl ?_
  refine xr_if_le 59 38 C dX10_chance_35 (by decide) rfl (fun hc => ?_) (fun hc => ?_)
  · replace hf := (if_pos hc).symm.trans hf
    refine xr_sub [1] (lv2 := [(4, mm_i v4)]) rfl ?_
    obtain ⟨z, hf2, rfl⟩ := mm_mp_e hf
    clear hf
    have hf := hf2
    clear hf2
    exact w_X10_chance_59 C hf ko
  · replace hf := (if_neg hc).symm.trans hf
    exact w_X10_chance_38 C hf ko
noncomputable def f_X10_chance_26 (M : mm_M) (v2 : Int64) (v4 : Int32) (v5 : Int64) : Option ((Int32 × Int64) ⊕ (Int32)) :=
  if 0 ≤ (lg_cmp v5 v2) then mm_mp (f_X10_chance_59 M v4) else f_X10_chance_33 M v2 v4 v5
set_option maxRecDepth 20000 in
theorem w_X10_chance_26 {g : mm_c} (C : mm_ok g cX10_chance "LessonCardsModel" (some .int) "chance" 7 0 0 0 0) {M : mm_M} {v2 : Int64} {v4 : Int32} {v5 : Int64} {res : (Int32 × Int64) ⊕ (Int32)} (hf : f_X10_chance_26 M v2 v4 v5 = some res) (ko : (mm_o (h_X10_chance_26 g M v2) (fun z => mm_q g 0 0 (some (mm_i z)) M)) res) : mm_X g 0 0 M 26 [(2, mm_j v2), (4, mm_i v4), (5, mm_j v5)] [] := by
  unfold f_X10_chance_26 at hf
  refine xr_lload 28 2 C dX10_chance_26 rfl rfl ?_
  refine xr_lload_n 29 0 C dX10_chance_28 rfl rfl rfl ?_
  refine xr_lcmp 30 C dX10_chance_29 rfl ?_
  refine xr_if_ge 59 33 C dX10_chance_30 (by decide) rfl (fun hc => ?_) (fun hc => ?_)
  · replace hf := (if_pos hc).symm.trans hf
    refine xr_sub [1] (lv2 := [(4, mm_i v4)]) rfl ?_
    obtain ⟨z, hf2, rfl⟩ := mm_mp_e hf
    clear hf
    have hf := hf2
    clear hf2
    exact w_X10_chance_59 C hf ko
  · replace hf := (if_neg hc).symm.trans hf
    exact w_X10_chance_33 C hf ko
noncomputable def f_X10_chance_26w (M : mm_M) (v2 : Int64) (v4 : Int32) (v5 : Int64) : Option (Int32) := mm_w (fun x => f_X10_chance_26 M v2 x.1 x.2) (v4, v5)
theorem l_X10_chance_26 {g : mm_c} (C : mm_ok g cX10_chance "LessonCardsModel" (some .int) "chance" 7 0 0 0 0) {M : mm_M} {v2 : Int64} {v4 : Int32} {v5 : Int64} {res : Int32} (hf : f_X10_chance_26w M v2 v4 v5 = some res) (ko : (fun z => mm_q g 0 0 (some (mm_i z)) M) res) : mm_X g 0 0 M 26 [(2, mm_j v2), (4, mm_i v4), (5, mm_j v5)] [] :=
  mm_w_W (body := fun x => f_X10_chance_26 M v2 x.1 x.2) (Wh := h_X10_chance_26 g M v2) (ok := (fun z => mm_q g 0 0 (some (mm_i z)) M)) (x := (v4, v5)) (fun x r hb ho => w_X10_chance_26 C hb ho) hf ko
noncomputable def f_X10_chance_0 (M : mm_M) (v0 : Option Nat) (v1 : Int32) : Option (Int32) :=
  (mm_fI M v0 11 32).bind fun x5 =>
  (mm_fI M v0 11 29).bind fun x12 =>
  (mm_dL (16000 * (((v1 - x5)).toInt64)) (x12.toInt64)).bind fun x16 =>
  f_X10_chance_26w M x16 1000 0
set_option maxRecDepth 20000 in
theorem w_X10_chance_0 {g : mm_c} (C : mm_ok g cX10_chance "LessonCardsModel" (some .int) "chance" 7 0 0 0 0) {M : mm_M} {v0 : Option Nat} {v1 : Int32} {res : Int32} (hf : f_X10_chance_0 M v0 v1 = some res) (ko : (fun z => mm_q g 0 0 (some (mm_i z)) M) res) : mm_X g 0 0 M 0 [(0, mm_r v0), (1, mm_i v1)] [] := by
  unfold f_X10_chance_0 at hf
  refine xr_ldc2 3 C wd_1143 dX10_chance_0 rfl ?_
  refine xr_iload_n 4 1 C dX10_chance_3 rfl rfl rfl ?_
  refine xr_aload_n 5 0 C dX10_chance_4 rfl rfl rfl ?_
  obtain ⟨x5, h5, hf⟩ := mm_bd_e hf
  refine xr_getI 8 C cf_X10_144 rfl h5 dX10_chance_5 rfl ?_
  refine xr_isub 9 C dX10_chance_8 rfl ?_
  refine xr_i2l 10 C dX10_chance_9 rfl ?_
  refine xr_lmul 11 C dX10_chance_10 rfl ?_
  refine xr_aload_n 12 0 C dX10_chance_11 rfl rfl rfl ?_
  obtain ⟨x12, h12, hf⟩ := mm_bd_e hf
  refine xr_getI 15 C cf_X10_135 rfl h12 dX10_chance_12 rfl ?_
  refine xr_i2l 16 C dX10_chance_15 rfl ?_
  obtain ⟨x16, h16, hf⟩ := mm_bd_e hf
  refine xr_ldivv 17 C h16 dX10_chance_16 rfl ?_
  refine xr_lstore_n 18 C dX10_chance_17 rfl (by decide) rfl [(2, mm_j x16), (0, mm_r v0), (1, mm_i v1)] rfl ?_
  refine xr_sipush 21 C (v := 1000) dX10_chance_18 (by decide) rfl ?_
  refine xr_istore 23 C dX10_chance_21 (by decide) rfl [(4, mm_i 1000), (2, mm_j x16), (0, mm_r v0), (1, mm_i v1)] rfl ?_
  refine xr_lconst 24 C (v := 0) dX10_chance_23 (by decide) rfl ?_
  refine xr_lstore 26 C dX10_chance_24 (by decide) rfl [(5, mm_j 0), (4, mm_i 1000), (2, mm_j x16), (0, mm_r v0), (1, mm_i v1)] rfl ?_
  refine xr_sub [2, 1, 0] (lv2 := [(2, mm_j x16), (4, mm_i 1000), (5, mm_j 0)]) rfl ?_
  exact l_X10_chance_26 C hf ko
noncomputable def f_X10_chance (M : mm_M) (v0 : Option Nat) (v1 : Int32) : Option (Int32) := f_X10_chance_0 M v0 v1
theorem c_X10_chance (l : Launch) (G : va_G) (cy : Nat → ClassId) {M : mm_M} {v0 : Option Nat} {v1 : Int32} {r : Int32} (hf : f_X10_chance M v0 v1 = some r) : mm_Met l yX10_chance cX10_chance 7 (some .int) 0 0 0 0 G cy [mm_r v0, mm_i v1] M (some (mm_i r)) M :=
  mm_enter (by decide) (Nat.le_of_ble_eq_true rfl) (fun p e R s m args below meth c Q C hq => xr_sub [0, 1] (lv2 := [(0, mm_r v0), (1, mm_i v1)]) rfl (w_X10_chance_0 C hf hq))
noncomputable def f_X10_kept_23 (M : mm_M) (s0 : Int64) : Option (Int64) :=
  some s0
set_option maxRecDepth 20000 in
theorem w_X10_kept_23 {g : mm_c} (C : mm_ok g cX10_kept "LessonCardsModel" (some .long) "kept" 6 0 0 0 0) {M : mm_M} {s0 : Int64} {res : Int64} (hf : f_X10_kept_23 M s0 = some res) (ko : (fun z => mm_q g 0 0 (some (mm_j z)) M) res) : mm_X g 0 0 M 23 [] [mm_j s0] := by
  unfold f_X10_kept_23 at hf
  obtain rfl := Option.some.inj hf
  exact xr_lret C ko ⟨(Nat.le_of_ble_eq_true rfl), (Nat.le_of_ble_eq_true rfl)⟩ dX10_kept_23
noncomputable def f_X10_kept_6 (M : mm_M) (v2 : Int64) : Option (Int64) :=
  f_X10_kept_23 M v2
set_option maxRecDepth 20000 in
theorem w_X10_kept_6 {g : mm_c} (C : mm_ok g cX10_kept "LessonCardsModel" (some .long) "kept" 6 0 0 0 0) {M : mm_M} {v2 : Int64} {res : Int64} (hf : f_X10_kept_6 M v2 = some res) (ko : (fun z => mm_q g 0 0 (some (mm_j z)) M) res) : mm_X g 0 0 M 6 [(2, mm_j v2)] [] := by
  unfold f_X10_kept_6 at hf
  refine xr_lload_n 7 0 C dX10_kept_6 rfl rfl rfl ?_
  refine xr_goto 23 C dX10_kept_7 (by decide) ?_
  refine xr_sub [] (lv2 := []) rfl ?_
  exact w_X10_kept_23 C hf ko
noncomputable def f_X10_kept_17 (M : mm_M) (v4 : Int64) : Option (Int64) :=
  f_X10_kept_23 M v4
set_option maxRecDepth 20000 in
theorem w_X10_kept_17 {g : mm_c} (C : mm_ok g cX10_kept "LessonCardsModel" (some .long) "kept" 6 0 0 0 0) {M : mm_M} {v4 : Int64} {res : Int64} (hf : f_X10_kept_17 M v4 = some res) (ko : (fun z => mm_q g 0 0 (some (mm_j z)) M) res) : mm_X g 0 0 M 17 [(4, mm_j v4)] [] := by
  unfold f_X10_kept_17 at hf
  refine xr_lload 19 0 C dX10_kept_17 rfl rfl ?_
  refine xr_goto 23 C dX10_kept_19 (by decide) ?_
  refine xr_sub [] (lv2 := []) rfl ?_
  exact w_X10_kept_23 C hf ko
noncomputable def f_X10_kept_22 (M : mm_M) (v0 : Int64) : Option (Int64) :=
  f_X10_kept_23 M v0
set_option maxRecDepth 20000 in
theorem w_X10_kept_22 {g : mm_c} (C : mm_ok g cX10_kept "LessonCardsModel" (some .long) "kept" 6 0 0 0 0) {M : mm_M} {v0 : Int64} {res : Int64} (hf : f_X10_kept_22 M v0 = some res) (ko : (fun z => mm_q g 0 0 (some (mm_j z)) M) res) : mm_X g 0 0 M 22 [(0, mm_j v0)] [] := by
  unfold f_X10_kept_22 at hf
  refine xr_lload_n 23 0 C dX10_kept_22 rfl rfl rfl ?_
  refine xr_sub [] (lv2 := []) rfl ?_
  exact w_X10_kept_23 C hf ko
noncomputable def f_X10_kept_10 (M : mm_M) (v0 : Int64) (v4 : Int64) : Option (Int64) :=
  if (lg_cmp v0 v4) ≤ 0 then f_X10_kept_22 M v0 else f_X10_kept_17 M v4
set_option maxRecDepth 20000 in
theorem w_X10_kept_10 {g : mm_c} (C : mm_ok g cX10_kept "LessonCardsModel" (some .long) "kept" 6 0 0 0 0) {M : mm_M} {v0 : Int64} {v4 : Int64} {res : Int64} (hf : f_X10_kept_10 M v0 v4 = some res) (ko : (fun z => mm_q g 0 0 (some (mm_j z)) M) res) : mm_X g 0 0 M 10 [(0, mm_j v0), (4, mm_j v4)] [] := by
  unfold f_X10_kept_10 at hf
  refine xr_lload_n 11 0 C dX10_kept_10 rfl rfl rfl ?_
  refine xr_lload 13 1 C dX10_kept_11 rfl rfl ?_
  refine xr_lcmp 14 C dX10_kept_13 rfl ?_
  refine xr_if_le 22 17 C dX10_kept_14 (by decide) rfl (fun hc => ?_) (fun hc => ?_)
  · replace hf := (if_pos hc).symm.trans hf
    refine xr_sub [0] (lv2 := [(0, mm_j v0)]) rfl ?_
    exact w_X10_kept_22 C hf ko
  · replace hf := (if_neg hc).symm.trans hf
    refine xr_sub [1] (lv2 := [(4, mm_j v4)]) rfl ?_
    exact w_X10_kept_17 C hf ko
noncomputable def f_X10_kept_0 (M : mm_M) (v0 : Int64) (v2 : Int64) (v4 : Int64) : Option (Int64) :=
  if 0 ≤ (lg_cmp v0 v2) then f_X10_kept_10 M v0 v4 else f_X10_kept_6 M v2
set_option maxRecDepth 20000 in
theorem w_X10_kept_0 {g : mm_c} (C : mm_ok g cX10_kept "LessonCardsModel" (some .long) "kept" 6 0 0 0 0) {M : mm_M} {v0 : Int64} {v2 : Int64} {v4 : Int64} {res : Int64} (hf : f_X10_kept_0 M v0 v2 v4 = some res) (ko : (fun z => mm_q g 0 0 (some (mm_j z)) M) res) : mm_X g 0 0 M 0 [(0, mm_j v0), (2, mm_j v2), (4, mm_j v4)] [] := by
  unfold f_X10_kept_0 at hf
  refine xr_lload_n 1 0 C dX10_kept_0 rfl rfl rfl ?_
  refine xr_lload_n 2 1 C dX10_kept_1 rfl rfl rfl ?_
  refine xr_lcmp 3 C dX10_kept_2 rfl ?_
  refine xr_if_ge 10 6 C dX10_kept_3 (by decide) rfl (fun hc => ?_) (fun hc => ?_)
  · replace hf := (if_pos hc).symm.trans hf
    refine xr_sub [0, 2] (lv2 := [(0, mm_j v0), (4, mm_j v4)]) rfl ?_
    exact w_X10_kept_10 C hf ko
  · replace hf := (if_neg hc).symm.trans hf
    refine xr_sub [1] (lv2 := [(2, mm_j v2)]) rfl ?_
    exact w_X10_kept_6 C hf ko
noncomputable def f_X10_kept (M : mm_M) (v0 : Int64) (v2 : Int64) (v4 : Int64) : Option (Int64) := f_X10_kept_0 M v0 v2 v4
theorem c_X10_kept (l : Launch) (G : va_G) (cy : Nat → ClassId) {M : mm_M} {v0 : Int64} {v2 : Int64} {v4 : Int64} {r : Int64} (hf : f_X10_kept M v0 v2 v4 = some r) : mm_Met l yX10_kept cX10_kept 6 (some .long) 0 0 0 0 G cy [mm_j v0, mm_j v2, mm_j v4] M (some (mm_j r)) M :=
  mm_enter (by decide) (Nat.le_of_ble_eq_true rfl) (fun p e R s m args below meth c Q C hq => xr_sub [0, 1, 2] (lv2 := [(0, mm_j v0), (2, mm_j v2), (4, mm_j v4)]) rfl (w_X10_kept_0 C hf hq))
noncomputable def f_X10_byStrengths_112 (M : mm_M) (v0 : Option Nat) (v3 : Int64) (v5 : Int32) : Option (mm_M) :=
  (f_X10_kept M v3 500 4000000).bind fun x120 =>
  (mm_pI M v0 11 29 ((x120).toInt32)).bind fun M124 =>
  (f_X10_kept M124 (v5.toInt64) 1300 3500).bind fun x137 =>
  (mm_pI M124 v0 11 30 ((x137).toInt32)).bind fun M141 =>
  some M141
set_option maxRecDepth 20000 in
theorem w_X10_byStrengths_112 {g : mm_c} (C : mm_ok g cX10_byStrengths "LessonCardsModel" none "byStrengths" 6 1 25 0 0) {M : mm_M} {v0 : Option Nat} {v3 : Int64} {v5 : Int32} {res : mm_M} (hf : f_X10_byStrengths_112 M v0 v3 v5 = some res) (ko : (fun z => mm_q g 0 0 none z) res) : mm_X g 0 0 M 112 [(0, mm_r v0), (3, mm_j v3), (5, mm_i v5)] [] := by
  unfold f_X10_byStrengths_112 at hf
  refine xr_aload_n 113 0 C dX10_byStrengths_112 rfl rfl rfl ?_
  refine xr_lload_n 114 1 C dX10_byStrengths_113 rfl rfl rfl ?_
  refine xr_ldc2 117 C wd_1169 dX10_byStrengths_114 rfl ?_
  refine xr_ldc2 120 C wd_1170 dX10_byStrengths_117 rfl ?_
  obtain ⟨x120, h120, hf⟩ := mm_bd_e hf
  refine xr_callS 123 C [mm_j v3, mm_j 500, mm_j 4000000] cm_X10_158 (fun l G cy => c_X10_kept l G cy h120) rfl rfl ⟨⟨Nat.le_of_ble_eq_true rfl, Nat.le_of_ble_eq_true rfl⟩, (Nat.le_of_ble_eq_true rfl), (Nat.le_of_ble_eq_true rfl)⟩ (Nat.le_of_ble_eq_true rfl) dX10_byStrengths_120 rfl ?_
  refine xr_l2i 124 C dX10_byStrengths_123 rfl ?_
  obtain ⟨M124, h124, hf⟩ := mm_bd_e hf
  refine xr_putI 127 C cf_X10_135 (fun h => by cases h) h124 dX10_byStrengths_124 rfl ?_
  refine xr_aload_n 128 0 C dX10_byStrengths_127 rfl rfl rfl ?_
  refine xr_iload 130 2 C dX10_byStrengths_128 rfl rfl ?_
  refine xr_i2l 131 C dX10_byStrengths_130 rfl ?_
  refine xr_ldc2 134 C wd_1179 dX10_byStrengths_131 rfl ?_
  refine xr_ldc2 137 C wd_1180 dX10_byStrengths_134 rfl ?_
  obtain ⟨x137, h137, hf⟩ := mm_bd_e hf
  refine xr_callS 140 C [mm_j (v5.toInt64), mm_j 1300, mm_j 3500] cm_X10_158 (fun l G cy => c_X10_kept l G cy h137) rfl rfl ⟨⟨Nat.le_of_ble_eq_true rfl, Nat.le_of_ble_eq_true rfl⟩, (Nat.le_of_ble_eq_true rfl), (Nat.le_of_ble_eq_true rfl)⟩ (Nat.le_of_ble_eq_true rfl) dX10_byStrengths_137 rfl ?_
  refine xr_l2i 141 C dX10_byStrengths_140 rfl ?_
  obtain ⟨M141, h141, hf⟩ := mm_bd_e hf
  refine xr_putI 144 C cf_X10_138 (fun h => by cases h) h141 dX10_byStrengths_141 rfl ?_
  obtain rfl := Option.some.inj hf
  exact xr_vret C ko ⟨(Nat.le_of_ble_eq_true rfl), (Nat.le_of_ble_eq_true rfl)⟩ dX10_byStrengths_144
noncomputable def f_X10_byStrengths_16 (M : mm_M) (v0 : Option Nat) (v3 : Int64) (v5 : Int32) : Option (mm_M) :=
  f_X10_byStrengths_112 M v0 (v3 / 5) (v5 + (-200))
set_option maxRecDepth 20000 in
theorem w_X10_byStrengths_16 {g : mm_c} (C : mm_ok g cX10_byStrengths "LessonCardsModel" none "byStrengths" 6 1 25 0 0) {M : mm_M} {v0 : Option Nat} {v3 : Int64} {v5 : Int32} {res : mm_M} (hf : f_X10_byStrengths_16 M v0 v3 v5 = some res) (ko : (fun z => mm_q g 0 0 none z) res) : mm_X g 0 0 M 16 [(0, mm_r v0), (3, mm_j v3), (5, mm_i v5)] [] := by
  unfold f_X10_byStrengths_16 at hf
  refine xr_lload_n 17 1 C dX10_byStrengths_16 rfl rfl rfl ?_
  refine xr_ldc2 20 C wd_1178 dX10_byStrengths_17 rfl ?_
  refine xr_ldiv 21 C dX10_byStrengths_20 (by decide) rfl ?_
  refine xr_lstore_n 22 C dX10_byStrengths_21 rfl (by decide) rfl [(3, mm_j (v3 / 5)), (0, mm_r v0), (5, mm_i v5)] rfl ?_
  refine xr_iincW 28 2 C dX10_byStrengths_22 rfl (by decide) (v := (-200)) (by decide) rfl [(5, mm_i (v5 + (-200))), (3, mm_j (v3 / 5)), (0, mm_r v0)] rfl ?_
  refine xr_goto 112 C dX10_byStrengths_28 (by decide) ?_
  refine xr_sub [2, 1, 0] (lv2 := [(0, mm_r v0), (3, mm_j (v3 / 5)), (5, mm_i (v5 + (-200)))]) rfl ?_
  exact w_X10_byStrengths_112 C hf ko
noncomputable def f_X10_byStrengths_36 (M : mm_M) (v0 : Option Nat) (v2 : Int32) (v3 : Int64) (v5 : Int32) : Option (mm_M) :=
  f_X10_byStrengths_112 M v0 ((v3 * (((1000 + (1200 - v2))).toInt64)) / 1000) (v5 + (-150))
set_option maxRecDepth 20000 in
theorem w_X10_byStrengths_36 {g : mm_c} (C : mm_ok g cX10_byStrengths "LessonCardsModel" none "byStrengths" 6 1 25 0 0) {M : mm_M} {v0 : Option Nat} {v2 : Int32} {v3 : Int64} {v5 : Int32} {res : mm_M} (hf : f_X10_byStrengths_36 M v0 v2 v3 v5 = some res) (ko : (fun z => mm_q g 0 0 none z) res) : mm_X g 0 0 M 36 [(0, mm_r v0), (2, mm_i v2), (3, mm_j v3), (5, mm_i v5)] [] := by
  unfold f_X10_byStrengths_36 at hf
  refine xr_lload_n 37 2 C dX10_byStrengths_36 rfl rfl rfl ?_
  refine xr_sipush 40 C (v := 1000) dX10_byStrengths_37 (by decide) rfl ?_
  refine xr_sipush 43 C (v := 1200) dX10_byStrengths_40 (by decide) rfl ?_
  refine xr_iload_n 44 1 C dX10_byStrengths_43 rfl rfl rfl ?_
  refine xr_isub 45 C dX10_byStrengths_44 rfl ?_
  refine xr_iadd 46 C dX10_byStrengths_45 rfl ?_
  refine xr_i2l 47 C dX10_byStrengths_46 rfl ?_
  refine xr_lmul 48 C dX10_byStrengths_47 rfl ?_
  refine xr_ldc2 51 C wd_1168 dX10_byStrengths_48 rfl ?_
  refine xr_ldiv 52 C dX10_byStrengths_51 (by decide) rfl ?_
  refine xr_lstore_n 53 C dX10_byStrengths_52 rfl (by decide) rfl [(3, mm_j ((v3 * (((1000 + (1200 - v2))).toInt64)) / 1000)), (0, mm_r v0), (2, mm_i v2), (5, mm_i v5)] rfl ?_
  refine xr_iincW 59 3 C dX10_byStrengths_53 rfl (by decide) (v := (-150)) (by decide) rfl [(5, mm_i (v5 + (-150))), (3, mm_j ((v3 * (((1000 + (1200 - v2))).toInt64)) / 1000)), (0, mm_r v0), (2, mm_i v2)] rfl ?_
  refine xr_goto 112 C dX10_byStrengths_59 (by decide) ?_
  refine xr_sub [2, 1, 0] (lv2 := [(0, mm_r v0), (3, mm_j ((v3 * (((1000 + (1200 - v2))).toInt64)) / 1000)), (5, mm_i (v5 + (-150)))]) rfl ?_
  exact w_X10_byStrengths_112 C hf ko
noncomputable def f_X10_byStrengths_96 (M : mm_M) (v0 : Option Nat) (v3 : Int64) (v5 : Int32) : Option (mm_M) :=
  f_X10_byStrengths_112 M v0 ((v3 * 1300) / 1000) (v5 + 150)
set_option maxRecDepth 20000 in
theorem w_X10_byStrengths_96 {g : mm_c} (C : mm_ok g cX10_byStrengths "LessonCardsModel" none "byStrengths" 6 1 25 0 0) {M : mm_M} {v0 : Option Nat} {v3 : Int64} {v5 : Int32} {res : mm_M} (hf : f_X10_byStrengths_96 M v0 v3 v5 = some res) (ko : (fun z => mm_q g 0 0 none z) res) : mm_X g 0 0 M 96 [(0, mm_r v0), (3, mm_j v3), (5, mm_i v5)] [] := by
  unfold f_X10_byStrengths_96 at hf
  refine xr_lload_n 97 1 C dX10_byStrengths_96 rfl rfl rfl ?_
  refine xr_ldc2 100 C wd_1179 dX10_byStrengths_97 rfl ?_
  refine xr_lmul 101 C dX10_byStrengths_100 rfl ?_
  refine xr_ldc2 104 C wd_1168 dX10_byStrengths_101 rfl ?_
  refine xr_ldiv 105 C dX10_byStrengths_104 (by decide) rfl ?_
  refine xr_lstore_n 106 C dX10_byStrengths_105 rfl (by decide) rfl [(3, mm_j ((v3 * 1300) / 1000)), (0, mm_r v0), (5, mm_i v5)] rfl ?_
  refine xr_iincW 112 2 C dX10_byStrengths_106 rfl (by decide) (v := 150) (by decide) rfl [(5, mm_i (v5 + 150)), (3, mm_j ((v3 * 1300) / 1000)), (0, mm_r v0)] rfl ?_
  refine xr_sub [2, 1, 0] (lv2 := [(0, mm_r v0), (3, mm_j ((v3 * 1300) / 1000)), (5, mm_i (v5 + 150))]) rfl ?_
  exact w_X10_byStrengths_112 C hf ko
noncomputable def f_X10_byStrengths_62 (M : mm_M) (v0 : Option Nat) (v1 : Int32) (v2 : Int32) (v3 : Int64) (v5 : Int32) : Option (mm_M) :=
  if v1 = 3 then f_X10_byStrengths_96 M v0 ((v3 * (1000 + ((((v5.toInt64) - 1000) * (((1900 - v2)).toInt64)) / 1000))) / 1000) v5 else f_X10_byStrengths_112 M v0 ((v3 * (1000 + ((((v5.toInt64) - 1000) * (((1900 - v2)).toInt64)) / 1000))) / 1000) v5
set_option maxRecDepth 20000 in
theorem w_X10_byStrengths_62 {g : mm_c} (C : mm_ok g cX10_byStrengths "LessonCardsModel" none "byStrengths" 6 1 25 0 0) {M : mm_M} {v0 : Option Nat} {v1 : Int32} {v2 : Int32} {v3 : Int64} {v5 : Int32} {res : mm_M} (hf : f_X10_byStrengths_62 M v0 v1 v2 v3 v5 = some res) (ko : (fun z => mm_q g 0 0 none z) res) : mm_X g 0 0 M 62 [(0, mm_r v0), (1, mm_i v1), (2, mm_i v2), (3, mm_j v3), (5, mm_i v5)] [] := by
  unfold f_X10_byStrengths_62 at hf
  refine xr_lload_n 63 3 C dX10_byStrengths_62 rfl rfl rfl ?_
  refine xr_ldc2 66 C wd_1168 dX10_byStrengths_63 rfl ?_
  refine xr_iload 68 4 C dX10_byStrengths_66 rfl rfl ?_
  refine xr_i2l 69 C dX10_byStrengths_68 rfl ?_
  refine xr_ldc2 72 C wd_1168 dX10_byStrengths_69 rfl ?_
  refine xr_lsub 73 C dX10_byStrengths_72 rfl ?_
  refine xr_sipush 76 C (v := 1900) dX10_byStrengths_73 (by decide) rfl ?_
  refine xr_iload_n 77 2 C dX10_byStrengths_76 rfl rfl rfl ?_
  refine xr_isub 78 C dX10_byStrengths_77 rfl ?_
  refine xr_i2l 79 C dX10_byStrengths_78 rfl ?_
  refine xr_lmul 80 C dX10_byStrengths_79 rfl ?_
  refine xr_ldc2 83 C wd_1168 dX10_byStrengths_80 rfl ?_
  refine xr_ldiv 84 C dX10_byStrengths_83 (by decide) rfl ?_
  refine xr_ladd 85 C dX10_byStrengths_84 rfl ?_
  refine xr_lmul 86 C dX10_byStrengths_85 rfl ?_
  refine xr_ldc2 89 C wd_1168 dX10_byStrengths_86 rfl ?_
  refine xr_ldiv 90 C dX10_byStrengths_89 (by decide) rfl ?_
  refine xr_lstore_n 91 C dX10_byStrengths_90 rfl (by decide) rfl [(3, mm_j ((v3 * (1000 + ((((v5.toInt64) - 1000) * (((1900 - v2)).toInt64)) / 1000))) / 1000)), (0, mm_r v0), (1, mm_i v1), (2, mm_i v2), (5, mm_i v5)] rfl ?_
  refine xr_iload_n 92 2 C dX10_byStrengths_91 rfl rfl rfl ?_
  refine xr_iconst 93 C (v := 3) dX10_byStrengths_92 (by decide) rfl ?_
  refine xr_icmp_ne 112 96 C dX10_byStrengths_93 (by decide) rfl (fun hc => ?_) (fun hc => ?_)
  · replace hf := (if_neg hc).symm.trans hf
    refine xr_sub [1, 0, 4] (lv2 := [(0, mm_r v0), (3, mm_j ((v3 * (1000 + ((((v5.toInt64) - 1000) * (((1900 - v2)).toInt64)) / 1000))) / 1000)), (5, mm_i v5)]) rfl ?_
    exact w_X10_byStrengths_112 C hf ko
  · replace hf := (if_pos hc).symm.trans hf
    refine xr_sub [1, 0, 4] (lv2 := [(0, mm_r v0), (3, mm_j ((v3 * (1000 + ((((v5.toInt64) - 1000) * (((1900 - v2)).toInt64)) / 1000))) / 1000)), (5, mm_i v5)]) rfl ?_
    exact w_X10_byStrengths_96 C hf ko
noncomputable def f_X10_byStrengths_31 (M : mm_M) (v0 : Option Nat) (v1 : Int32) (v2 : Int32) (v3 : Int64) (v5 : Int32) : Option (mm_M) :=
  if v1 = 1 then f_X10_byStrengths_36 M v0 v2 v3 v5 else f_X10_byStrengths_62 M v0 v1 v2 v3 v5
set_option maxRecDepth 20000 in
theorem w_X10_byStrengths_31 {g : mm_c} (C : mm_ok g cX10_byStrengths "LessonCardsModel" none "byStrengths" 6 1 25 0 0) {M : mm_M} {v0 : Option Nat} {v1 : Int32} {v2 : Int32} {v3 : Int64} {v5 : Int32} {res : mm_M} (hf : f_X10_byStrengths_31 M v0 v1 v2 v3 v5 = some res) (ko : (fun z => mm_q g 0 0 none z) res) : mm_X g 0 0 M 31 [(0, mm_r v0), (1, mm_i v1), (2, mm_i v2), (3, mm_j v3), (5, mm_i v5)] [] := by
  unfold f_X10_byStrengths_31 at hf
  refine xr_iload_n 32 1 C dX10_byStrengths_31 rfl rfl rfl ?_
  refine xr_iconst 33 C (v := 1) dX10_byStrengths_32 (by decide) rfl ?_
  refine xr_icmp_ne 62 36 C dX10_byStrengths_33 (by decide) rfl (fun hc => ?_) (fun hc => ?_)
  · replace hf := (if_neg hc).symm.trans hf
    exact w_X10_byStrengths_62 C hf ko
  · replace hf := (if_pos hc).symm.trans hf
    refine xr_sub [0, 2, 3, 4] (lv2 := [(0, mm_r v0), (2, mm_i v2), (3, mm_j v3), (5, mm_i v5)]) rfl ?_
    exact w_X10_byStrengths_36 C hf ko
noncomputable def f_X10_byStrengths_0 (M : mm_M) (v0 : Option Nat) (v1 : Int32) (v2 : Int32) : Option (mm_M) :=
  (mm_fI M v0 11 29).bind fun x1 =>
  (mm_fI M v0 11 30).bind fun x7 =>
  if v1 = 0 then f_X10_byStrengths_16 M v0 (x1.toInt64) x7 else f_X10_byStrengths_31 M v0 v1 v2 (x1.toInt64) x7
set_option maxRecDepth 20000 in
theorem w_X10_byStrengths_0 {g : mm_c} (C : mm_ok g cX10_byStrengths "LessonCardsModel" none "byStrengths" 6 1 25 0 0) {M : mm_M} {v0 : Option Nat} {v1 : Int32} {v2 : Int32} {res : mm_M} (hf : f_X10_byStrengths_0 M v0 v1 v2 = some res) (ko : (fun z => mm_q g 0 0 none z) res) : mm_X g 0 0 M 0 [(0, mm_r v0), (1, mm_i v1), (2, mm_i v2)] [] := by
  unfold f_X10_byStrengths_0 at hf
  refine xr_aload_n 1 0 C dX10_byStrengths_0 rfl rfl rfl ?_
  obtain ⟨x1, h1, hf⟩ := mm_bd_e hf
  refine xr_getI 4 C cf_X10_135 rfl h1 dX10_byStrengths_1 rfl ?_
  refine xr_i2l 5 C dX10_byStrengths_4 rfl ?_
  refine xr_lstore_n 6 C dX10_byStrengths_5 rfl (by decide) rfl [(3, mm_j (x1.toInt64)), (0, mm_r v0), (1, mm_i v1), (2, mm_i v2)] rfl ?_
  refine xr_aload_n 7 1 C dX10_byStrengths_6 rfl rfl rfl ?_
  obtain ⟨x7, h7, hf⟩ := mm_bd_e hf
  refine xr_getI 10 C cf_X10_138 rfl h7 dX10_byStrengths_7 rfl ?_
  refine xr_istore 12 C dX10_byStrengths_10 (by decide) rfl [(5, mm_i x7), (3, mm_j (x1.toInt64)), (0, mm_r v0), (1, mm_i v1), (2, mm_i v2)] rfl ?_
  refine xr_iload_n 13 3 C dX10_byStrengths_12 rfl rfl rfl ?_
  refine xr_if_ne 31 16 C dX10_byStrengths_13 (by decide) rfl (fun hc => ?_) (fun hc => ?_)
  · replace hf := (if_neg hc).symm.trans hf
    refine xr_sub [2, 3, 4, 1, 0] (lv2 := [(0, mm_r v0), (1, mm_i v1), (2, mm_i v2), (3, mm_j (x1.toInt64)), (5, mm_i x7)]) rfl ?_
    exact w_X10_byStrengths_31 C hf ko
  · replace hf := (if_pos hc).symm.trans hf
    refine xr_sub [2, 1, 0] (lv2 := [(0, mm_r v0), (3, mm_j (x1.toInt64)), (5, mm_i x7)]) rfl ?_
    exact w_X10_byStrengths_16 C hf ko
noncomputable def f_X10_byStrengths (M : mm_M) (v0 : Option Nat) (v1 : Int32) (v2 : Int32) : Option (mm_M) := f_X10_byStrengths_0 M v0 v1 v2
theorem c_X10_byStrengths (l : Launch) (G : va_G) (cy : Nat → ClassId) {M : mm_M} {v0 : Option Nat} {v1 : Int32} {v2 : Int32} {M1 : mm_M} (hf : f_X10_byStrengths M v0 v1 v2 = some M1) : mm_Met l yX10_byStrengths cX10_byStrengths 6 none 1 25 0 0 G cy [mm_r v0, mm_i v1, mm_i v2] M none M1 :=
  mm_enter (by decide) (Nat.le_of_ble_eq_true rfl) (fun p e R s m args below meth c Q C hq => xr_sub [0, 1, 2] (lv2 := [(0, mm_r v0), (1, mm_i v1), (2, mm_i v2)]) rfl (w_X10_byStrengths_0 C hf hq))
noncomputable def f_X10_answerBy_187 (M : mm_M) (s0 : Option Nat) (s1 : Int32) (s2 : Int32) : Option (mm_M) :=
  (mm_pI M s0 11 33 (s1 + s2)).bind fun M188 =>
  some M188
set_option maxRecDepth 20000 in
theorem w_X10_answerBy_187 {g : mm_c} (C : mm_ok g cX10_answerBy "LessonCardsModel" none "answerBy" 7 2 50 0 0) {M : mm_M} {s0 : Option Nat} {s1 : Int32} {s2 : Int32} {res : mm_M} (hf : f_X10_answerBy_187 M s0 s1 s2 = some res) (ko : (fun z => mm_q g 0 0 none z) res) : mm_X g 0 0 M 187 [] [mm_i s2, mm_i s1, mm_r s0] := by
  unfold f_X10_answerBy_187 at hf
  refine xr_iadd 188 C dX10_answerBy_187 rfl ?_
  obtain ⟨M188, h188, hf⟩ := mm_bd_e hf
  refine xr_putI 191 C cf_X10_147 (fun h => by cases h) h188 dX10_answerBy_188 rfl ?_
  obtain rfl := Option.some.inj hf
  exact xr_vret C ko ⟨(Nat.le_of_ble_eq_true rfl), (Nat.le_of_ble_eq_true rfl)⟩ dX10_answerBy_191
noncomputable def f_X10_answerBy_182 (M : mm_M) (s0 : Option Nat) (s1 : Int32) : Option (mm_M) :=
  f_X10_answerBy_187 M s0 s1 1
set_option maxRecDepth 20000 in
theorem w_X10_answerBy_182 {g : mm_c} (C : mm_ok g cX10_answerBy "LessonCardsModel" none "answerBy" 7 2 50 0 0) {M : mm_M} {s0 : Option Nat} {s1 : Int32} {res : mm_M} (hf : f_X10_answerBy_182 M s0 s1 = some res) (ko : (fun z => mm_q g 0 0 none z) res) : mm_X g 0 0 M 182 [] [mm_i s1, mm_r s0] := by
  unfold f_X10_answerBy_182 at hf
  refine xr_iconst 183 C (v := 1) dX10_answerBy_182 (by decide) rfl ?_
  refine xr_goto 187 C dX10_answerBy_183 (by decide) ?_
  exact w_X10_answerBy_187 C hf ko
noncomputable def f_X10_answerBy_186 (M : mm_M) (s0 : Option Nat) (s1 : Int32) : Option (mm_M) :=
  f_X10_answerBy_187 M s0 s1 0
set_option maxRecDepth 20000 in
theorem w_X10_answerBy_186 {g : mm_c} (C : mm_ok g cX10_answerBy "LessonCardsModel" none "answerBy" 7 2 50 0 0) {M : mm_M} {s0 : Option Nat} {s1 : Int32} {res : mm_M} (hf : f_X10_answerBy_186 M s0 s1 = some res) (ko : (fun z => mm_q g 0 0 none z) res) : mm_X g 0 0 M 186 [] [mm_i s1, mm_r s0] := by
  unfold f_X10_answerBy_186 at hf
  refine xr_iconst 187 C (v := 0) dX10_answerBy_186 (by decide) rfl ?_
  exact w_X10_answerBy_187 C hf ko
noncomputable def f_X10_answerBy_167 (M : mm_M) (v0 : Option Nat) (v3 : Int32) (v4 : Int32) : Option (mm_M) :=
  (mm_pI M v0 11 32 v4).bind fun M170 =>
  (mm_fI M170 v0 11 33).bind fun x175 =>
  if v3 = 0 then f_X10_answerBy_182 M170 v0 x175 else f_X10_answerBy_186 M170 v0 x175
set_option maxRecDepth 20000 in
theorem w_X10_answerBy_167 {g : mm_c} (C : mm_ok g cX10_answerBy "LessonCardsModel" none "answerBy" 7 2 50 0 0) {M : mm_M} {v0 : Option Nat} {v3 : Int32} {v4 : Int32} {res : mm_M} (hf : f_X10_answerBy_167 M v0 v3 v4 = some res) (ko : (fun z => mm_q g 0 0 none z) res) : mm_X g 0 0 M 167 [(0, mm_r v0), (3, mm_i v3), (4, mm_i v4)] [] := by
  unfold f_X10_answerBy_167 at hf
  refine xr_aload_n 168 0 C dX10_answerBy_167 rfl rfl rfl ?_
  refine xr_iload 170 2 C dX10_answerBy_168 rfl rfl ?_
  obtain ⟨M170, h170, hf⟩ := mm_bd_e hf
  refine xr_putI 173 C cf_X10_144 (fun h => by cases h) h170 dX10_answerBy_170 rfl ?_
  refine xr_aload_n 174 0 C dX10_answerBy_173 rfl rfl rfl ?_
  refine xr_dup 175 C dX10_answerBy_174 rfl rfl ?_
  obtain ⟨x175, h175, hf⟩ := mm_bd_e hf
  refine xr_getI 178 C cf_X10_147 rfl h175 dX10_answerBy_175 rfl ?_
  refine xr_iload_n 179 1 C dX10_answerBy_178 rfl rfl rfl ?_
  refine xr_if_ne 186 182 C dX10_answerBy_179 (by decide) rfl (fun hc => ?_) (fun hc => ?_)
  · replace hf := (if_neg hc).symm.trans hf
    refine xr_sub [] (lv2 := []) rfl ?_
    exact w_X10_answerBy_186 C hf ko
  · replace hf := (if_pos hc).symm.trans hf
    refine xr_sub [] (lv2 := []) rfl ?_
    exact w_X10_answerBy_182 C hf ko
noncomputable def f_X10_answerBy_90 (M : mm_M) (v0 : Option Nat) (v3 : Int32) (v4 : Int32) (s0 : Option Nat) (s1 : Int32) : Option (mm_M) :=
  (mm_pI M s0 11 31 s1).bind fun M90 =>
  (mm_fI M90 v0 11 31).bind fun x98 =>
  (mm_pI M90 v0 11 29 (1000 <<< (x98 &&& 31))).bind fun M102 =>
  f_X10_answerBy_167 M102 v0 v3 v4
set_option maxRecDepth 20000 in
theorem w_X10_answerBy_90 {g : mm_c} (C : mm_ok g cX10_answerBy "LessonCardsModel" none "answerBy" 7 2 50 0 0) {M : mm_M} {v0 : Option Nat} {v3 : Int32} {v4 : Int32} {s0 : Option Nat} {s1 : Int32} {res : mm_M} (hf : f_X10_answerBy_90 M v0 v3 v4 s0 s1 = some res) (ko : (fun z => mm_q g 0 0 none z) res) : mm_X g 0 0 M 90 [(0, mm_r v0), (3, mm_i v3), (4, mm_i v4)] [mm_i s1, mm_r s0] := by
  unfold f_X10_answerBy_90 at hf
  obtain ⟨M90, h90, hf⟩ := mm_bd_e hf
  refine xr_putI 93 C cf_X10_141 (fun h => by cases h) h90 dX10_answerBy_90 rfl ?_
  refine xr_aload_n 94 0 C dX10_answerBy_93 rfl rfl rfl ?_
  refine xr_sipush 97 C (v := 1000) dX10_answerBy_94 (by decide) rfl ?_
  refine xr_aload_n 98 0 C dX10_answerBy_97 rfl rfl rfl ?_
  obtain ⟨x98, h98, hf⟩ := mm_bd_e hf
  refine xr_getI 101 C cf_X10_141 rfl h98 dX10_answerBy_98 rfl ?_
  refine xr_ishl 102 C dX10_answerBy_101 rfl ?_
  obtain ⟨M102, h102, hf⟩ := mm_bd_e hf
  refine xr_putI 105 C cf_X10_135 (fun h => by cases h) h102 dX10_answerBy_102 rfl ?_
  refine xr_goto 167 C dX10_answerBy_105 (by decide) ?_
  exact w_X10_answerBy_167 C hf ko
noncomputable def f_X10_answerBy_60 (M : mm_M) (v0 : Option Nat) (v3 : Int32) (v4 : Int32) (s0 : Option Nat) : Option (mm_M) :=
  f_X10_answerBy_90 M v0 v3 v4 s0 0
set_option maxRecDepth 20000 in
theorem w_X10_answerBy_60 {g : mm_c} (C : mm_ok g cX10_answerBy "LessonCardsModel" none "answerBy" 7 2 50 0 0) {M : mm_M} {v0 : Option Nat} {v3 : Int32} {v4 : Int32} {s0 : Option Nat} {res : mm_M} (hf : f_X10_answerBy_60 M v0 v3 v4 s0 = some res) (ko : (fun z => mm_q g 0 0 none z) res) : mm_X g 0 0 M 60 [(0, mm_r v0), (3, mm_i v3), (4, mm_i v4)] [mm_r s0] := by
  unfold f_X10_answerBy_60 at hf
  refine xr_iconst 61 C (v := 0) dX10_answerBy_60 (by decide) rfl ?_
  refine xr_goto 90 C dX10_answerBy_61 (by decide) ?_
  exact w_X10_answerBy_90 C hf ko
noncomputable def f_X10_answerBy_77 (M : mm_M) (v0 : Option Nat) (v3 : Int32) (v4 : Int32) (s0 : Option Nat) : Option (mm_M) :=
  f_X10_answerBy_90 M v0 v3 v4 s0 9
set_option maxRecDepth 20000 in
theorem w_X10_answerBy_77 {g : mm_c} (C : mm_ok g cX10_answerBy "LessonCardsModel" none "answerBy" 7 2 50 0 0) {M : mm_M} {v0 : Option Nat} {v3 : Int32} {v4 : Int32} {s0 : Option Nat} {res : mm_M} (hf : f_X10_answerBy_77 M v0 v3 v4 s0 = some res) (ko : (fun z => mm_q g 0 0 none z) res) : mm_X g 0 0 M 77 [(0, mm_r v0), (3, mm_i v3), (4, mm_i v4)] [mm_r s0] := by
  unfold f_X10_answerBy_77 at hf
  refine xr_bipush 79 C (v := 9) dX10_answerBy_77 (by decide) rfl ?_
  refine xr_goto 90 C dX10_answerBy_79 (by decide) ?_
  exact w_X10_answerBy_90 C hf ko
noncomputable def f_X10_answerBy_82 (M : mm_M) (v0 : Option Nat) (v3 : Int32) (v4 : Int32) (s0 : Option Nat) : Option (mm_M) :=
  (mm_fI M v0 11 31).bind fun x83 =>
  f_X10_answerBy_90 M v0 v3 v4 s0 ((x83 + v3) - 1)
set_option maxRecDepth 20000 in
theorem w_X10_answerBy_82 {g : mm_c} (C : mm_ok g cX10_answerBy "LessonCardsModel" none "answerBy" 7 2 50 0 0) {M : mm_M} {v0 : Option Nat} {v3 : Int32} {v4 : Int32} {s0 : Option Nat} {res : mm_M} (hf : f_X10_answerBy_82 M v0 v3 v4 s0 = some res) (ko : (fun z => mm_q g 0 0 none z) res) : mm_X g 0 0 M 82 [(0, mm_r v0), (3, mm_i v3), (4, mm_i v4)] [mm_r s0] := by
  unfold f_X10_answerBy_82 at hf
  refine xr_aload_n 83 0 C dX10_answerBy_82 rfl rfl rfl ?_
  obtain ⟨x83, h83, hf⟩ := mm_bd_e hf
  refine xr_getI 86 C cf_X10_141 rfl h83 dX10_answerBy_83 rfl ?_
  refine xr_iload_n 87 1 C dX10_answerBy_86 rfl rfl rfl ?_
  refine xr_iadd 88 C dX10_answerBy_87 rfl ?_
  refine xr_iconst 89 C (v := 1) dX10_answerBy_88 (by decide) rfl ?_
  refine xr_isub 90 C dX10_answerBy_89 rfl ?_
  exact w_X10_answerBy_90 C hf ko
noncomputable def f_X10_answerBy_64 (M : mm_M) (v0 : Option Nat) (v3 : Int32) (v4 : Int32) (s0 : Option Nat) : Option (mm_M) :=
  (mm_fI M v0 11 31).bind fun x65 =>
  if ((x65 + v3) - 1) ≤ 9 then f_X10_answerBy_82 M v0 v3 v4 s0 else f_X10_answerBy_77 M v0 v3 v4 s0
set_option maxRecDepth 20000 in
theorem w_X10_answerBy_64 {g : mm_c} (C : mm_ok g cX10_answerBy "LessonCardsModel" none "answerBy" 7 2 50 0 0) {M : mm_M} {v0 : Option Nat} {v3 : Int32} {v4 : Int32} {s0 : Option Nat} {res : mm_M} (hf : f_X10_answerBy_64 M v0 v3 v4 s0 = some res) (ko : (fun z => mm_q g 0 0 none z) res) : mm_X g 0 0 M 64 [(0, mm_r v0), (3, mm_i v3), (4, mm_i v4)] [mm_r s0] := by
  unfold f_X10_answerBy_64 at hf
  refine xr_aload_n 65 0 C dX10_answerBy_64 rfl rfl rfl ?_
  obtain ⟨x65, h65, hf⟩ := mm_bd_e hf
  refine xr_getI 68 C cf_X10_141 rfl h65 dX10_answerBy_65 rfl ?_
  refine xr_iload_n 69 1 C dX10_answerBy_68 rfl rfl rfl ?_
  refine xr_iadd 70 C dX10_answerBy_69 rfl ?_
  refine xr_iconst 71 C (v := 1) dX10_answerBy_70 (by decide) rfl ?_
  refine xr_isub 72 C dX10_answerBy_71 rfl ?_
  refine xr_bipush 74 C (v := 9) dX10_answerBy_72 (by decide) rfl ?_
  refine xr_icmp_le 82 77 C dX10_answerBy_74 (by decide) rfl (fun hc => ?_) (fun hc => ?_)
  · replace hf := (if_pos hc).symm.trans hf
    exact w_X10_answerBy_82 C hf ko
  · replace hf := (if_neg hc).symm.trans hf
    exact w_X10_answerBy_77 C hf ko
noncomputable def f_X10_answerBy_55 (M : mm_M) (v0 : Option Nat) (v3 : Int32) (v4 : Int32) : Option (mm_M) :=
  if v3 = 0 then f_X10_answerBy_60 M v0 v3 v4 v0 else f_X10_answerBy_64 M v0 v3 v4 v0
set_option maxRecDepth 20000 in
theorem w_X10_answerBy_55 {g : mm_c} (C : mm_ok g cX10_answerBy "LessonCardsModel" none "answerBy" 7 2 50 0 0) {M : mm_M} {v0 : Option Nat} {v3 : Int32} {v4 : Int32} {res : mm_M} (hf : f_X10_answerBy_55 M v0 v3 v4 = some res) (ko : (fun z => mm_q g 0 0 none z) res) : mm_X g 0 0 M 55 [(0, mm_r v0), (3, mm_i v3), (4, mm_i v4)] [] := by
  unfold f_X10_answerBy_55 at hf
  refine xr_aload_n 56 0 C dX10_answerBy_55 rfl rfl rfl ?_
  refine xr_iload_n 57 1 C dX10_answerBy_56 rfl rfl rfl ?_
  refine xr_if_ne 64 60 C dX10_answerBy_57 (by decide) rfl (fun hc => ?_) (fun hc => ?_)
  · replace hf := (if_neg hc).symm.trans hf
    exact w_X10_answerBy_64 C hf ko
  · replace hf := (if_pos hc).symm.trans hf
    exact w_X10_answerBy_60 C hf ko
noncomputable def f_X10_answerBy_113 (M : mm_M) (v0 : Option Nat) (v3 : Int32) (v4 : Int32) (v6 : Int32) : Option (mm_M) :=
  (mm_pI M v0 11 29 v6).bind fun M116 =>
  f_X10_answerBy_167 M116 v0 v3 v4
set_option maxRecDepth 20000 in
theorem w_X10_answerBy_113 {g : mm_c} (C : mm_ok g cX10_answerBy "LessonCardsModel" none "answerBy" 7 2 50 0 0) {M : mm_M} {v0 : Option Nat} {v3 : Int32} {v4 : Int32} {v6 : Int32} {res : mm_M} (hf : f_X10_answerBy_113 M v0 v3 v4 v6 = some res) (ko : (fun z => mm_q g 0 0 none z) res) : mm_X g 0 0 M 113 [(0, mm_r v0), (3, mm_i v3), (4, mm_i v4), (6, mm_i v6)] [] := by
  unfold f_X10_answerBy_113 at hf
  refine xr_aload_n 114 0 C dX10_answerBy_113 rfl rfl rfl ?_
  refine xr_iload 116 3 C dX10_answerBy_114 rfl rfl ?_
  obtain ⟨M116, h116, hf⟩ := mm_bd_e hf
  refine xr_putI 119 C cf_X10_135 (fun h => by cases h) h116 dX10_answerBy_116 rfl ?_
  refine xr_goto 167 C dX10_answerBy_119 (by decide) ?_
  refine xr_sub [0, 1, 2] (lv2 := [(0, mm_r v0), (3, mm_i v3), (4, mm_i v4)]) rfl ?_
  exact w_X10_answerBy_167 C hf ko
noncomputable def f_X10_answerBy_127 (M : mm_M) (v0 : Option Nat) (v2 : Int32) (v3 : Int32) (v4 : Int32) : Option (mm_M) :=
  (mm_fI M v0 11 29).bind fun x129 =>
  (f_X10_kept M (((x129.toInt64) * (v2.toInt64)) / 1000) 500 4000000).bind fun x146 =>
  (mm_pI M v0 11 29 ((x146).toInt32)).bind fun M150 =>
  f_X10_answerBy_167 M150 v0 v3 v4
set_option maxRecDepth 20000 in
theorem w_X10_answerBy_127 {g : mm_c} (C : mm_ok g cX10_answerBy "LessonCardsModel" none "answerBy" 7 2 50 0 0) {M : mm_M} {v0 : Option Nat} {v2 : Int32} {v3 : Int32} {v4 : Int32} {res : mm_M} (hf : f_X10_answerBy_127 M v0 v2 v3 v4 = some res) (ko : (fun z => mm_q g 0 0 none z) res) : mm_X g 0 0 M 127 [(0, mm_r v0), (2, mm_i v2), (3, mm_i v3), (4, mm_i v4)] [] := by
  unfold f_X10_answerBy_127 at hf
  refine xr_aload_n 128 0 C dX10_answerBy_127 rfl rfl rfl ?_
  refine xr_aload_n 129 0 C dX10_answerBy_128 rfl rfl rfl ?_
  obtain ⟨x129, h129, hf⟩ := mm_bd_e hf
  refine xr_getI 132 C cf_X10_135 rfl h129 dX10_answerBy_129 rfl ?_
  refine xr_i2l 133 C dX10_answerBy_132 rfl ?_
  refine xr_iload_n 134 1 C dX10_answerBy_133 rfl rfl rfl ?_
  refine xr_i2l 135 C dX10_answerBy_134 rfl ?_
  refine xr_lmul 136 C dX10_answerBy_135 rfl ?_
  refine xr_ldc2 139 C wd_1168 dX10_answerBy_136 rfl ?_
  refine xr_ldiv 140 C dX10_answerBy_139 (by decide) rfl ?_
  refine xr_ldc2 143 C wd_1169 dX10_answerBy_140 rfl ?_
  refine xr_ldc2 146 C wd_1170 dX10_answerBy_143 rfl ?_
  obtain ⟨x146, h146, hf⟩ := mm_bd_e hf
  refine xr_callS 149 C [mm_j (((x129.toInt64) * (v2.toInt64)) / 1000), mm_j 500, mm_j 4000000] cm_X10_158 (fun l G cy => c_X10_kept l G cy h146) rfl rfl ⟨⟨Nat.le_of_ble_eq_true rfl, Nat.le_of_ble_eq_true rfl⟩, (Nat.le_of_ble_eq_true rfl), (Nat.le_of_ble_eq_true rfl)⟩ (Nat.le_of_ble_eq_true rfl) dX10_answerBy_146 rfl ?_
  refine xr_l2i 150 C dX10_answerBy_149 rfl ?_
  obtain ⟨M150, h150, hf⟩ := mm_bd_e hf
  refine xr_putI 153 C cf_X10_135 (fun h => by cases h) h150 dX10_answerBy_150 rfl ?_
  refine xr_goto 167 C dX10_answerBy_153 (by decide) ?_
  refine xr_sub [0, 2, 3] (lv2 := [(0, mm_r v0), (3, mm_i v3), (4, mm_i v4)]) rfl ?_
  exact w_X10_answerBy_167 C hf ko
noncomputable def f_X10_answerBy_156 (M : mm_M) (v0 : Option Nat) (v3 : Int32) (v4 : Int32) : Option (mm_M) :=
  (mm_rc M v0 11).bind fun u161 =>
  (f_X10_chance M v0 v4).bind fun x161 =>
  (mm_rc M v0 11).bind fun u164 =>
  (f_X10_byStrengths M v0 v3 x161).bind fun M164 =>
  f_X10_answerBy_167 M164 v0 v3 v4
set_option maxRecDepth 20000 in
theorem w_X10_answerBy_156 {g : mm_c} (C : mm_ok g cX10_answerBy "LessonCardsModel" none "answerBy" 7 2 50 0 0) {M : mm_M} {v0 : Option Nat} {v3 : Int32} {v4 : Int32} {res : mm_M} (hf : f_X10_answerBy_156 M v0 v3 v4 = some res) (ko : (fun z => mm_q g 0 0 none z) res) : mm_X g 0 0 M 156 [(0, mm_r v0), (3, mm_i v3), (4, mm_i v4)] [] := by
  unfold f_X10_answerBy_156 at hf
  refine xr_aload_n 157 0 C dX10_answerBy_156 rfl rfl rfl ?_
  refine xr_iload_n 158 1 C dX10_answerBy_157 rfl rfl rfl ?_
  refine xr_aload_n 159 0 C dX10_answerBy_158 rfl rfl rfl ?_
  refine xr_iload 161 2 C dX10_answerBy_159 rfl rfl ?_
  obtain ⟨u161, g161, hf⟩ := mm_bd_e hf
  obtain ⟨x161, h161, hf⟩ := mm_bd_e hf
  refine xr_callV 164 C [mm_i v4] cm_X10_162 (fun l G cy => c_X10_chance l G cy h161) g161 rfl rfl ⟨⟨Nat.le_of_ble_eq_true rfl, Nat.le_of_ble_eq_true rfl⟩, (Nat.le_of_ble_eq_true rfl), (Nat.le_of_ble_eq_true rfl)⟩ (Nat.le_of_ble_eq_true rfl) dX10_answerBy_161 rfl ?_
  obtain ⟨u164, g164, hf⟩ := mm_bd_e hf
  obtain ⟨M164, h164, hf⟩ := mm_bd_e hf
  refine xr_callV 167 C [mm_i v3, mm_i x161] cm_X10_166 (fun l G cy => c_X10_byStrengths l G cy h164) g164 rfl rfl ⟨⟨Nat.le_of_ble_eq_true rfl, Nat.le_of_ble_eq_true rfl⟩, (Nat.le_of_ble_eq_true rfl), (Nat.le_of_ble_eq_true rfl)⟩ (Nat.le_of_ble_eq_true rfl) dX10_answerBy_164 rfl ?_
  exact w_X10_answerBy_167 C hf ko
noncomputable def f_X10_answerBy_122 (M : mm_M) (v0 : Option Nat) (v1 : Int32) (v2 : Int32) (v3 : Int32) (v4 : Int32) : Option (mm_M) :=
  if v1 = 2 then f_X10_answerBy_127 M v0 v2 v3 v4 else f_X10_answerBy_156 M v0 v3 v4
set_option maxRecDepth 20000 in
theorem w_X10_answerBy_122 {g : mm_c} (C : mm_ok g cX10_answerBy "LessonCardsModel" none "answerBy" 7 2 50 0 0) {M : mm_M} {v0 : Option Nat} {v1 : Int32} {v2 : Int32} {v3 : Int32} {v4 : Int32} {res : mm_M} (hf : f_X10_answerBy_122 M v0 v1 v2 v3 v4 = some res) (ko : (fun z => mm_q g 0 0 none z) res) : mm_X g 0 0 M 122 [(0, mm_r v0), (1, mm_i v1), (2, mm_i v2), (3, mm_i v3), (4, mm_i v4)] [] := by
  unfold f_X10_answerBy_122 at hf
  refine xr_iload_n 123 1 C dX10_answerBy_122 rfl rfl rfl ?_
  refine xr_iconst 124 C (v := 2) dX10_answerBy_123 (by decide) rfl ?_
  refine xr_icmp_ne 156 127 C dX10_answerBy_124 (by decide) rfl (fun hc => ?_) (fun hc => ?_)
  · replace hf := (if_neg hc).symm.trans hf
    refine xr_sub [0, 3, 4] (lv2 := [(0, mm_r v0), (3, mm_i v3), (4, mm_i v4)]) rfl ?_
    exact w_X10_answerBy_156 C hf ko
  · replace hf := (if_pos hc).symm.trans hf
    refine xr_sub [0, 2, 3, 4] (lv2 := [(0, mm_r v0), (2, mm_i v2), (3, mm_i v3), (4, mm_i v4)]) rfl ?_
    exact w_X10_answerBy_127 C hf ko
noncomputable def f_X10_answerBy_108 (M : mm_M) (v0 : Option Nat) (v1 : Int32) (v2 : Int32) (v3 : Int32) (v4 : Int32) (v5 : Int32) (v6 : Int32) : Option (mm_M) :=
  if v5 = 0 then f_X10_answerBy_122 M v0 v1 v2 v3 v4 else f_X10_answerBy_113 M v0 v3 v4 v6
set_option maxRecDepth 20000 in
theorem w_X10_answerBy_108 {g : mm_c} (C : mm_ok g cX10_answerBy "LessonCardsModel" none "answerBy" 7 2 50 0 0) {M : mm_M} {v0 : Option Nat} {v1 : Int32} {v2 : Int32} {v3 : Int32} {v4 : Int32} {v5 : Int32} {v6 : Int32} {res : mm_M} (hf : f_X10_answerBy_108 M v0 v1 v2 v3 v4 v5 v6 = some res) (ko : (fun z => mm_q g 0 0 none z) res) : mm_X g 0 0 M 108 [(0, mm_r v0), (1, mm_i v1), (2, mm_i v2), (3, mm_i v3), (4, mm_i v4), (5, mm_i v5), (6, mm_i v6)] [] := by
  unfold f_X10_answerBy_108 at hf
  refine xr_iload 110 5 C dX10_answerBy_108 rfl rfl ?_
  refine xr_if_eq 122 113 C dX10_answerBy_110 (by decide) rfl (fun hc => ?_) (fun hc => ?_)
  · replace hf := (if_pos hc).symm.trans hf
    refine xr_sub [0, 1, 2, 3, 4] (lv2 := [(0, mm_r v0), (1, mm_i v1), (2, mm_i v2), (3, mm_i v3), (4, mm_i v4)]) rfl ?_
    exact w_X10_answerBy_122 C hf ko
  · replace hf := (if_neg hc).symm.trans hf
    refine xr_sub [0, 3, 4, 6] (lv2 := [(0, mm_r v0), (3, mm_i v3), (4, mm_i v4), (6, mm_i v6)]) rfl ?_
    exact w_X10_answerBy_113 C hf ko
noncomputable def f_X10_answerBy_49 (M : mm_M) (v0 : Option Nat) (v1 : Int32) (v2 : Int32) (v3 : Int32) (v4 : Int32) (v5 : Int32) (s0 : Int32) : Option (mm_M) :=
  if v1 = 0 then f_X10_answerBy_55 M v0 v3 v4 else f_X10_answerBy_108 M v0 v1 v2 v3 v4 v5 s0
set_option maxRecDepth 20000 in
theorem w_X10_answerBy_49 {g : mm_c} (C : mm_ok g cX10_answerBy "LessonCardsModel" none "answerBy" 7 2 50 0 0) {M : mm_M} {v0 : Option Nat} {v1 : Int32} {v2 : Int32} {v3 : Int32} {v4 : Int32} {v5 : Int32} {s0 : Int32} {res : mm_M} (hf : f_X10_answerBy_49 M v0 v1 v2 v3 v4 v5 s0 = some res) (ko : (fun z => mm_q g 0 0 none z) res) : mm_X g 0 0 M 49 [(0, mm_r v0), (1, mm_i v1), (2, mm_i v2), (3, mm_i v3), (4, mm_i v4), (5, mm_i v5)] [mm_i s0] := by
  unfold f_X10_answerBy_49 at hf
  refine xr_istore 51 C dX10_answerBy_49 (by decide) rfl [(6, mm_i s0), (0, mm_r v0), (1, mm_i v1), (2, mm_i v2), (3, mm_i v3), (4, mm_i v4), (5, mm_i v5)] rfl ?_
  refine xr_iload_n 52 2 C dX10_answerBy_51 rfl rfl rfl ?_
  refine xr_if_ne 108 55 C dX10_answerBy_52 (by decide) rfl (fun hc => ?_) (fun hc => ?_)
  · replace hf := (if_neg hc).symm.trans hf
    refine xr_sub [1, 2, 3, 4, 5, 6, 0] (lv2 := [(0, mm_r v0), (1, mm_i v1), (2, mm_i v2), (3, mm_i v3), (4, mm_i v4), (5, mm_i v5), (6, mm_i s0)]) rfl ?_
    exact w_X10_answerBy_108 C hf ko
  · replace hf := (if_pos hc).symm.trans hf
    refine xr_sub [1, 4, 5] (lv2 := [(0, mm_r v0), (3, mm_i v3), (4, mm_i v4)]) rfl ?_
    exact w_X10_answerBy_55 C hf ko
noncomputable def f_X10_answerBy_18 (M : mm_M) (v0 : Option Nat) (v1 : Int32) (v2 : Int32) (v3 : Int32) (v4 : Int32) (v5 : Int32) : Option (mm_M) :=
  f_X10_answerBy_49 M v0 v1 v2 v3 v4 v5 500
set_option maxRecDepth 20000 in
theorem w_X10_answerBy_18 {g : mm_c} (C : mm_ok g cX10_answerBy "LessonCardsModel" none "answerBy" 7 2 50 0 0) {M : mm_M} {v0 : Option Nat} {v1 : Int32} {v2 : Int32} {v3 : Int32} {v4 : Int32} {v5 : Int32} {res : mm_M} (hf : f_X10_answerBy_18 M v0 v1 v2 v3 v4 v5 = some res) (ko : (fun z => mm_q g 0 0 none z) res) : mm_X g 0 0 M 18 [(0, mm_r v0), (1, mm_i v1), (2, mm_i v2), (3, mm_i v3), (4, mm_i v4), (5, mm_i v5)] [] := by
  unfold f_X10_answerBy_18 at hf
  refine xr_sipush 21 C (v := 500) dX10_answerBy_18 (by decide) rfl ?_
  refine xr_goto 49 C dX10_answerBy_21 (by decide) ?_
  exact w_X10_answerBy_49 C hf ko
noncomputable def f_X10_answerBy_29 (M : mm_M) (v0 : Option Nat) (v1 : Int32) (v2 : Int32) (v3 : Int32) (v4 : Int32) (v5 : Int32) : Option (mm_M) :=
  f_X10_answerBy_49 M v0 v1 v2 v3 v4 v5 1000
set_option maxRecDepth 20000 in
theorem w_X10_answerBy_29 {g : mm_c} (C : mm_ok g cX10_answerBy "LessonCardsModel" none "answerBy" 7 2 50 0 0) {M : mm_M} {v0 : Option Nat} {v1 : Int32} {v2 : Int32} {v3 : Int32} {v4 : Int32} {v5 : Int32} {res : mm_M} (hf : f_X10_answerBy_29 M v0 v1 v2 v3 v4 v5 = some res) (ko : (fun z => mm_q g 0 0 none z) res) : mm_X g 0 0 M 29 [(0, mm_r v0), (1, mm_i v1), (2, mm_i v2), (3, mm_i v3), (4, mm_i v4), (5, mm_i v5)] [] := by
  unfold f_X10_answerBy_29 at hf
  refine xr_sipush 32 C (v := 1000) dX10_answerBy_29 (by decide) rfl ?_
  refine xr_goto 49 C dX10_answerBy_32 (by decide) ?_
  exact w_X10_answerBy_49 C hf ko
noncomputable def f_X10_answerBy_40 (M : mm_M) (v0 : Option Nat) (v1 : Int32) (v2 : Int32) (v3 : Int32) (v4 : Int32) (v5 : Int32) : Option (mm_M) :=
  f_X10_answerBy_49 M v0 v1 v2 v3 v4 v5 6000
set_option maxRecDepth 20000 in
theorem w_X10_answerBy_40 {g : mm_c} (C : mm_ok g cX10_answerBy "LessonCardsModel" none "answerBy" 7 2 50 0 0) {M : mm_M} {v0 : Option Nat} {v1 : Int32} {v2 : Int32} {v3 : Int32} {v4 : Int32} {v5 : Int32} {res : mm_M} (hf : f_X10_answerBy_40 M v0 v1 v2 v3 v4 v5 = some res) (ko : (fun z => mm_q g 0 0 none z) res) : mm_X g 0 0 M 40 [(0, mm_r v0), (1, mm_i v1), (2, mm_i v2), (3, mm_i v3), (4, mm_i v4), (5, mm_i v5)] [] := by
  unfold f_X10_answerBy_40 at hf
  refine xr_sipush 43 C (v := 6000) dX10_answerBy_40 (by decide) rfl ?_
  refine xr_goto 49 C dX10_answerBy_43 (by decide) ?_
  exact w_X10_answerBy_49 C hf ko
noncomputable def f_X10_answerBy_46 (M : mm_M) (v0 : Option Nat) (v1 : Int32) (v2 : Int32) (v3 : Int32) (v4 : Int32) (v5 : Int32) : Option (mm_M) :=
  f_X10_answerBy_49 M v0 v1 v2 v3 v4 v5 2500
set_option maxRecDepth 20000 in
theorem w_X10_answerBy_46 {g : mm_c} (C : mm_ok g cX10_answerBy "LessonCardsModel" none "answerBy" 7 2 50 0 0) {M : mm_M} {v0 : Option Nat} {v1 : Int32} {v2 : Int32} {v3 : Int32} {v4 : Int32} {v5 : Int32} {res : mm_M} (hf : f_X10_answerBy_46 M v0 v1 v2 v3 v4 v5 = some res) (ko : (fun z => mm_q g 0 0 none z) res) : mm_X g 0 0 M 46 [(0, mm_r v0), (1, mm_i v1), (2, mm_i v2), (3, mm_i v3), (4, mm_i v4), (5, mm_i v5)] [] := by
  unfold f_X10_answerBy_46 at hf
  refine xr_sipush 49 C (v := 2500) dX10_answerBy_46 (by decide) rfl ?_
  exact w_X10_answerBy_49 C hf ko
noncomputable def f_X10_answerBy_35 (M : mm_M) (v0 : Option Nat) (v1 : Int32) (v2 : Int32) (v3 : Int32) (v4 : Int32) (v5 : Int32) : Option (mm_M) :=
  if v3 = 3 then f_X10_answerBy_40 M v0 v1 v2 v3 v4 v5 else f_X10_answerBy_46 M v0 v1 v2 v3 v4 v5
set_option maxRecDepth 20000 in
theorem w_X10_answerBy_35 {g : mm_c} (C : mm_ok g cX10_answerBy "LessonCardsModel" none "answerBy" 7 2 50 0 0) {M : mm_M} {v0 : Option Nat} {v1 : Int32} {v2 : Int32} {v3 : Int32} {v4 : Int32} {v5 : Int32} {res : mm_M} (hf : f_X10_answerBy_35 M v0 v1 v2 v3 v4 v5 = some res) (ko : (fun z => mm_q g 0 0 none z) res) : mm_X g 0 0 M 35 [(0, mm_r v0), (1, mm_i v1), (2, mm_i v2), (3, mm_i v3), (4, mm_i v4), (5, mm_i v5)] [] := by
  unfold f_X10_answerBy_35 at hf
  refine xr_iload_n 36 3 C dX10_answerBy_35 rfl rfl rfl ?_
  refine xr_iconst 37 C (v := 3) dX10_answerBy_36 (by decide) rfl ?_
  refine xr_icmp_ne 46 40 C dX10_answerBy_37 (by decide) rfl (fun hc => ?_) (fun hc => ?_)
  · replace hf := (if_neg hc).symm.trans hf
    exact w_X10_answerBy_46 C hf ko
  · replace hf := (if_pos hc).symm.trans hf
    exact w_X10_answerBy_40 C hf ko
noncomputable def f_X10_answerBy_24 (M : mm_M) (v0 : Option Nat) (v1 : Int32) (v2 : Int32) (v3 : Int32) (v4 : Int32) (v5 : Int32) : Option (mm_M) :=
  if v3 = 1 then f_X10_answerBy_29 M v0 v1 v2 v3 v4 v5 else f_X10_answerBy_35 M v0 v1 v2 v3 v4 v5
set_option maxRecDepth 20000 in
theorem w_X10_answerBy_24 {g : mm_c} (C : mm_ok g cX10_answerBy "LessonCardsModel" none "answerBy" 7 2 50 0 0) {M : mm_M} {v0 : Option Nat} {v1 : Int32} {v2 : Int32} {v3 : Int32} {v4 : Int32} {v5 : Int32} {res : mm_M} (hf : f_X10_answerBy_24 M v0 v1 v2 v3 v4 v5 = some res) (ko : (fun z => mm_q g 0 0 none z) res) : mm_X g 0 0 M 24 [(0, mm_r v0), (1, mm_i v1), (2, mm_i v2), (3, mm_i v3), (4, mm_i v4), (5, mm_i v5)] [] := by
  unfold f_X10_answerBy_24 at hf
  refine xr_iload_n 25 3 C dX10_answerBy_24 rfl rfl rfl ?_
  refine xr_iconst 26 C (v := 1) dX10_answerBy_25 (by decide) rfl ?_
  refine xr_icmp_ne 35 29 C dX10_answerBy_26 (by decide) rfl (fun hc => ?_) (fun hc => ?_)
  · replace hf := (if_neg hc).symm.trans hf
    exact w_X10_answerBy_35 C hf ko
  · replace hf := (if_pos hc).symm.trans hf
    exact w_X10_answerBy_29 C hf ko
noncomputable def f_X10_answerBy_12 (M : mm_M) (v0 : Option Nat) (v1 : Int32) (v2 : Int32) (v3 : Int32) (v4 : Int32) (s0 : Int32) : Option (mm_M) :=
  if v3 = 0 then f_X10_answerBy_18 M v0 v1 v2 v3 v4 s0 else f_X10_answerBy_24 M v0 v1 v2 v3 v4 s0
set_option maxRecDepth 20000 in
theorem w_X10_answerBy_12 {g : mm_c} (C : mm_ok g cX10_answerBy "LessonCardsModel" none "answerBy" 7 2 50 0 0) {M : mm_M} {v0 : Option Nat} {v1 : Int32} {v2 : Int32} {v3 : Int32} {v4 : Int32} {s0 : Int32} {res : mm_M} (hf : f_X10_answerBy_12 M v0 v1 v2 v3 v4 s0 = some res) (ko : (fun z => mm_q g 0 0 none z) res) : mm_X g 0 0 M 12 [(0, mm_r v0), (1, mm_i v1), (2, mm_i v2), (3, mm_i v3), (4, mm_i v4)] [mm_i s0] := by
  unfold f_X10_answerBy_12 at hf
  refine xr_istore 14 C dX10_answerBy_12 (by decide) rfl [(5, mm_i s0), (0, mm_r v0), (1, mm_i v1), (2, mm_i v2), (3, mm_i v3), (4, mm_i v4)] rfl ?_
  refine xr_iload_n 15 4 C dX10_answerBy_14 rfl rfl rfl ?_
  refine xr_if_ne 24 18 C dX10_answerBy_15 (by decide) rfl (fun hc => ?_) (fun hc => ?_)
  · replace hf := (if_neg hc).symm.trans hf
    refine xr_sub [1, 2, 3, 4, 5, 0] (lv2 := [(0, mm_r v0), (1, mm_i v1), (2, mm_i v2), (3, mm_i v3), (4, mm_i v4), (5, mm_i s0)]) rfl ?_
    exact w_X10_answerBy_24 C hf ko
  · replace hf := (if_pos hc).symm.trans hf
    refine xr_sub [1, 2, 3, 4, 5, 0] (lv2 := [(0, mm_r v0), (1, mm_i v1), (2, mm_i v2), (3, mm_i v3), (4, mm_i v4), (5, mm_i s0)]) rfl ?_
    exact w_X10_answerBy_18 C hf ko
noncomputable def f_X10_answerBy_7 (M : mm_M) (v0 : Option Nat) (v1 : Int32) (v2 : Int32) (v3 : Int32) (v4 : Int32) : Option (mm_M) :=
  f_X10_answerBy_12 M v0 v1 v2 v3 v4 1
set_option maxRecDepth 20000 in
theorem w_X10_answerBy_7 {g : mm_c} (C : mm_ok g cX10_answerBy "LessonCardsModel" none "answerBy" 7 2 50 0 0) {M : mm_M} {v0 : Option Nat} {v1 : Int32} {v2 : Int32} {v3 : Int32} {v4 : Int32} {res : mm_M} (hf : f_X10_answerBy_7 M v0 v1 v2 v3 v4 = some res) (ko : (fun z => mm_q g 0 0 none z) res) : mm_X g 0 0 M 7 [(0, mm_r v0), (1, mm_i v1), (2, mm_i v2), (3, mm_i v3), (4, mm_i v4)] [] := by
  unfold f_X10_answerBy_7 at hf
  refine xr_iconst 8 C (v := 1) dX10_answerBy_7 (by decide) rfl ?_
  refine xr_goto 12 C dX10_answerBy_8 (by decide) ?_
  exact w_X10_answerBy_12 C hf ko
noncomputable def f_X10_answerBy_11 (M : mm_M) (v0 : Option Nat) (v1 : Int32) (v2 : Int32) (v3 : Int32) (v4 : Int32) : Option (mm_M) :=
  f_X10_answerBy_12 M v0 v1 v2 v3 v4 0
set_option maxRecDepth 20000 in
theorem w_X10_answerBy_11 {g : mm_c} (C : mm_ok g cX10_answerBy "LessonCardsModel" none "answerBy" 7 2 50 0 0) {M : mm_M} {v0 : Option Nat} {v1 : Int32} {v2 : Int32} {v3 : Int32} {v4 : Int32} {res : mm_M} (hf : f_X10_answerBy_11 M v0 v1 v2 v3 v4 = some res) (ko : (fun z => mm_q g 0 0 none z) res) : mm_X g 0 0 M 11 [(0, mm_r v0), (1, mm_i v1), (2, mm_i v2), (3, mm_i v3), (4, mm_i v4)] [] := by
  unfold f_X10_answerBy_11 at hf
  refine xr_iconst 12 C (v := 0) dX10_answerBy_11 (by decide) rfl ?_
  exact w_X10_answerBy_12 C hf ko
noncomputable def f_X10_answerBy_0 (M : mm_M) (v0 : Option Nat) (v1 : Int32) (v2 : Int32) (v3 : Int32) (v4 : Int32) : Option (mm_M) :=
  (mm_fI M v0 11 29).bind fun x1 =>
  if x1 = 0 then f_X10_answerBy_7 M v0 v1 v2 v3 v4 else f_X10_answerBy_11 M v0 v1 v2 v3 v4
set_option maxRecDepth 20000 in
theorem w_X10_answerBy_0 {g : mm_c} (C : mm_ok g cX10_answerBy "LessonCardsModel" none "answerBy" 7 2 50 0 0) {M : mm_M} {v0 : Option Nat} {v1 : Int32} {v2 : Int32} {v3 : Int32} {v4 : Int32} {res : mm_M} (hf : f_X10_answerBy_0 M v0 v1 v2 v3 v4 = some res) (ko : (fun z => mm_q g 0 0 none z) res) : mm_X g 0 0 M 0 [(0, mm_r v0), (1, mm_i v1), (2, mm_i v2), (3, mm_i v3), (4, mm_i v4)] [] := by
  unfold f_X10_answerBy_0 at hf
  refine xr_aload_n 1 0 C dX10_answerBy_0 rfl rfl rfl ?_
  obtain ⟨x1, h1, hf⟩ := mm_bd_e hf
  refine xr_getI 4 C cf_X10_135 rfl h1 dX10_answerBy_1 rfl ?_
  refine xr_if_ne 11 7 C dX10_answerBy_4 (by decide) rfl (fun hc => ?_) (fun hc => ?_)
  · replace hf := (if_neg hc).symm.trans hf
    exact w_X10_answerBy_11 C hf ko
  · replace hf := (if_pos hc).symm.trans hf
    exact w_X10_answerBy_7 C hf ko
noncomputable def f_X10_answerBy (M : mm_M) (v0 : Option Nat) (v1 : Int32) (v2 : Int32) (v3 : Int32) (v4 : Int32) : Option (mm_M) := f_X10_answerBy_0 M v0 v1 v2 v3 v4
theorem c_X10_answerBy (l : Launch) (G : va_G) (cy : Nat → ClassId) {M : mm_M} {v0 : Option Nat} {v1 : Int32} {v2 : Int32} {v3 : Int32} {v4 : Int32} {M1 : mm_M} (hf : f_X10_answerBy M v0 v1 v2 v3 v4 = some M1) : mm_Met l yX10_answerBy cX10_answerBy 7 none 2 50 0 0 G cy [mm_r v0, mm_i v1, mm_i v2, mm_i v3, mm_i v4] M none M1 :=
  mm_enter (by decide) (Nat.le_of_ble_eq_true rfl) (fun p e R s m args below meth c Q C hq => xr_sub [0, 1, 2, 3, 4] (lv2 := [(0, mm_r v0), (1, mm_i v1), (2, mm_i v2), (3, mm_i v3), (4, mm_i v4)]) rfl (w_X10_answerBy_0 C hf hq))
noncomputable def f_X10_isLeech_14 (M : mm_M) (s0 : Int32) : Option (Int32) :=
  mm_gd (s0 = 0 ∨ s0 = 1) <|
  some s0
set_option maxRecDepth 20000 in
theorem w_X10_isLeech_14 {g : mm_c} (C : mm_ok g cX10_isLeech "LessonCardsModel" (some .boolean) "isLeech" 1 0 0 0 0) {M : mm_M} {s0 : Int32} {res : Int32} (hf : f_X10_isLeech_14 M s0 = some res) (ko : (fun z => mm_q g 0 0 (some (mm_i z)) M) res) : mm_X g 0 0 M 14 [] [mm_i s0] := by
  unfold f_X10_isLeech_14 at hf
  obtain ⟨hz, hf⟩ := mm_gd_e hf
  obtain rfl := Option.some.inj hf
  exact xr_zret C hz ko ⟨(Nat.le_of_ble_eq_true rfl), (Nat.le_of_ble_eq_true rfl)⟩ dX10_isLeech_14
noncomputable def f_X10_isLeech_9 (M : mm_M) : Option (Int32) :=
  f_X10_isLeech_14 M 1
set_option maxRecDepth 20000 in
theorem w_X10_isLeech_9 {g : mm_c} (C : mm_ok g cX10_isLeech "LessonCardsModel" (some .boolean) "isLeech" 1 0 0 0 0) {M : mm_M} {res : Int32} (hf : f_X10_isLeech_9 M = some res) (ko : (fun z => mm_q g 0 0 (some (mm_i z)) M) res) : mm_X g 0 0 M 9 [] [] := by
  unfold f_X10_isLeech_9 at hf
  refine xr_iconst 10 C (v := 1) dX10_isLeech_9 (by decide) rfl ?_
  refine xr_goto 14 C dX10_isLeech_10 (by decide) ?_
  exact w_X10_isLeech_14 C hf ko
noncomputable def f_X10_isLeech_13 (M : mm_M) : Option (Int32) :=
  f_X10_isLeech_14 M 0
set_option maxRecDepth 20000 in
theorem w_X10_isLeech_13 {g : mm_c} (C : mm_ok g cX10_isLeech "LessonCardsModel" (some .boolean) "isLeech" 1 0 0 0 0) {M : mm_M} {res : Int32} (hf : f_X10_isLeech_13 M = some res) (ko : (fun z => mm_q g 0 0 (some (mm_i z)) M) res) : mm_X g 0 0 M 13 [] [] := by
  unfold f_X10_isLeech_13 at hf
  refine xr_iconst 14 C (v := 0) dX10_isLeech_13 (by decide) rfl ?_
  exact w_X10_isLeech_14 C hf ko
noncomputable def f_X10_isLeech_0 (M : mm_M) (v0 : Option Nat) : Option (Int32) :=
  (mm_fI M v0 11 33).bind fun x1 =>
  if x1 < 8 then f_X10_isLeech_13 M else f_X10_isLeech_9 M
set_option maxRecDepth 20000 in
theorem w_X10_isLeech_0 {g : mm_c} (C : mm_ok g cX10_isLeech "LessonCardsModel" (some .boolean) "isLeech" 1 0 0 0 0) {M : mm_M} {v0 : Option Nat} {res : Int32} (hf : f_X10_isLeech_0 M v0 = some res) (ko : (fun z => mm_q g 0 0 (some (mm_i z)) M) res) : mm_X g 0 0 M 0 [(0, mm_r v0)] [] := by
  unfold f_X10_isLeech_0 at hf
  refine xr_aload_n 1 0 C dX10_isLeech_0 rfl rfl rfl ?_
  obtain ⟨x1, h1, hf⟩ := mm_bd_e hf
  refine xr_getI 4 C cf_X10_147 rfl h1 dX10_isLeech_1 rfl ?_
  refine xr_bipush 6 C (v := 8) dX10_isLeech_4 (by decide) rfl ?_
  refine xr_icmp_lt 13 9 C dX10_isLeech_6 (by decide) rfl (fun hc => ?_) (fun hc => ?_)
  · replace hf := (if_pos hc).symm.trans hf
    refine xr_sub [] (lv2 := []) rfl ?_
    exact w_X10_isLeech_13 C hf ko
  · replace hf := (if_neg hc).symm.trans hf
    refine xr_sub [] (lv2 := []) rfl ?_
    exact w_X10_isLeech_9 C hf ko
noncomputable def f_X10_isLeech (M : mm_M) (v0 : Option Nat) : Option (Int32) := f_X10_isLeech_0 M v0
theorem c_X10_isLeech (l : Launch) (G : va_G) (cy : Nat → ClassId) {M : mm_M} {v0 : Option Nat} {r : Int32} (hf : f_X10_isLeech M v0 = some r) : mm_Met l yX10_isLeech cX10_isLeech 1 (some .boolean) 0 0 0 0 G cy [mm_r v0] M (some (mm_i r)) M :=
  mm_enter (by decide) (Nat.le_of_ble_eq_true rfl) (fun p e R s m args below meth c Q C hq => xr_sub [0] (lv2 := [(0, mm_r v0)]) rfl (w_X10_isLeech_0 C hf hq))
noncomputable def f_X10_isDue_30 (M : mm_M) (s0 : Int32) : Option (Int32) :=
  mm_gd (s0 = 0 ∨ s0 = 1) <|
  some s0
set_option maxRecDepth 20000 in
theorem w_X10_isDue_30 {g : mm_c} (C : mm_ok g cX10_isDue "LessonCardsModel" (some .boolean) "isDue" 2 1 26 0 0) {M : mm_M} {s0 : Int32} {res : Int32} (hf : f_X10_isDue_30 M s0 = some res) (ko : (fun z => mm_q g 0 0 (some (mm_i z)) M) res) : mm_X g 0 0 M 30 [] [mm_i s0] := by
  unfold f_X10_isDue_30 at hf
  obtain ⟨hz, hf⟩ := mm_gd_e hf
  obtain rfl := Option.some.inj hf
  exact xr_zret C hz ko ⟨(Nat.le_of_ble_eq_true rfl), (Nat.le_of_ble_eq_true rfl)⟩ dX10_isDue_30
noncomputable def f_X10_isDue_25 (M : mm_M) : Option (Int32) :=
  f_X10_isDue_30 M 1
set_option maxRecDepth 20000 in
theorem w_X10_isDue_25 {g : mm_c} (C : mm_ok g cX10_isDue "LessonCardsModel" (some .boolean) "isDue" 2 1 26 0 0) {M : mm_M} {res : Int32} (hf : f_X10_isDue_25 M = some res) (ko : (fun z => mm_q g 0 0 (some (mm_i z)) M) res) : mm_X g 0 0 M 25 [] [] := by
  unfold f_X10_isDue_25 at hf
  refine xr_iconst 26 C (v := 1) dX10_isDue_25 (by decide) rfl ?_
  refine xr_goto 30 C dX10_isDue_26 (by decide) ?_
  exact w_X10_isDue_30 C hf ko
noncomputable def f_X10_isDue_29 (M : mm_M) : Option (Int32) :=
  f_X10_isDue_30 M 0
set_option maxRecDepth 20000 in
theorem w_X10_isDue_29 {g : mm_c} (C : mm_ok g cX10_isDue "LessonCardsModel" (some .boolean) "isDue" 2 1 26 0 0) {M : mm_M} {res : Int32} (hf : f_X10_isDue_29 M = some res) (ko : (fun z => mm_q g 0 0 (some (mm_i z)) M) res) : mm_X g 0 0 M 29 [] [] := by
  unfold f_X10_isDue_29 at hf
  refine xr_iconst 30 C (v := 0) dX10_isDue_29 (by decide) rfl ?_
  exact w_X10_isDue_30 C hf ko
noncomputable def f_X10_isDue_14 (M : mm_M) (v0 : Option Nat) (v1 : Int32) : Option (Int32) :=
  (mm_rc M v0 11).bind fun u16 =>
  (f_X10_chance M v0 v1).bind fun x16 =>
  if 900 ≤ x16 then f_X10_isDue_29 M else f_X10_isDue_25 M
set_option maxRecDepth 20000 in
theorem w_X10_isDue_14 {g : mm_c} (C : mm_ok g cX10_isDue "LessonCardsModel" (some .boolean) "isDue" 2 1 26 0 0) {M : mm_M} {v0 : Option Nat} {v1 : Int32} {res : Int32} (hf : f_X10_isDue_14 M v0 v1 = some res) (ko : (fun z => mm_q g 0 0 (some (mm_i z)) M) res) : mm_X g 0 0 M 14 [(0, mm_r v0), (1, mm_i v1)] [] := by
  unfold f_X10_isDue_14 at hf
  refine xr_aload_n 15 0 C dX10_isDue_14 rfl rfl rfl ?_
  refine xr_iload_n 16 1 C dX10_isDue_15 rfl rfl rfl ?_
  obtain ⟨u16, g16, hf⟩ := mm_bd_e hf
  obtain ⟨x16, h16, hf⟩ := mm_bd_e hf
  refine xr_callV 19 C [mm_i v1] cm_X10_162 (fun l G cy => c_X10_chance l G cy h16) g16 rfl rfl ⟨⟨Nat.le_of_ble_eq_true rfl, Nat.le_of_ble_eq_true rfl⟩, (Nat.le_of_ble_eq_true rfl), (Nat.le_of_ble_eq_true rfl)⟩ (Nat.le_of_ble_eq_true rfl) dX10_isDue_16 rfl ?_
  refine xr_sipush 22 C (v := 900) dX10_isDue_19 (by decide) rfl ?_
  refine xr_icmp_ge 29 25 C dX10_isDue_22 (by decide) rfl (fun hc => ?_) (fun hc => ?_)
  · replace hf := (if_pos hc).symm.trans hf
    refine xr_sub [] (lv2 := []) rfl ?_
    exact w_X10_isDue_29 C hf ko
  · replace hf := (if_neg hc).symm.trans hf
    refine xr_sub [] (lv2 := []) rfl ?_
    exact w_X10_isDue_25 C hf ko
noncomputable def f_X10_isDue_7 (M : mm_M) (v0 : Option Nat) (v1 : Int32) : Option (Int32) :=
  (mm_rc M v0 11).bind fun u8 =>
  (f_X10_isLeech M v0).bind fun x8 =>
  if x8 = 0 then f_X10_isDue_14 M v0 v1 else f_X10_isDue_29 M
set_option maxRecDepth 20000 in
theorem w_X10_isDue_7 {g : mm_c} (C : mm_ok g cX10_isDue "LessonCardsModel" (some .boolean) "isDue" 2 1 26 0 0) {M : mm_M} {v0 : Option Nat} {v1 : Int32} {res : Int32} (hf : f_X10_isDue_7 M v0 v1 = some res) (ko : (fun z => mm_q g 0 0 (some (mm_i z)) M) res) : mm_X g 0 0 M 7 [(0, mm_r v0), (1, mm_i v1)] [] := by
  unfold f_X10_isDue_7 at hf
  refine xr_aload_n 8 0 C dX10_isDue_7 rfl rfl rfl ?_
  obtain ⟨u8, g8, hf⟩ := mm_bd_e hf
  obtain ⟨x8, h8, hf⟩ := mm_bd_e hf
  refine xr_callV 11 C [] cm_X10_176 (fun l G cy => c_X10_isLeech l G cy h8) g8 rfl rfl ⟨⟨Nat.le_of_ble_eq_true rfl, Nat.le_of_ble_eq_true rfl⟩, (Nat.le_of_ble_eq_true rfl), (Nat.le_of_ble_eq_true rfl)⟩ (Nat.le_of_ble_eq_true rfl) dX10_isDue_8 rfl ?_
  refine xr_if_ne 29 14 C dX10_isDue_11 (by decide) rfl (fun hc => ?_) (fun hc => ?_)
  · replace hf := (if_neg hc).symm.trans hf
    refine xr_sub [] (lv2 := []) rfl ?_
    exact w_X10_isDue_29 C hf ko
  · replace hf := (if_pos hc).symm.trans hf
    exact w_X10_isDue_14 C hf ko
noncomputable def f_X10_isDue_0 (M : mm_M) (v0 : Option Nat) (v1 : Int32) : Option (Int32) :=
  (mm_fI M v0 11 29).bind fun x1 =>
  if x1 ≤ 0 then f_X10_isDue_29 M else f_X10_isDue_7 M v0 v1
set_option maxRecDepth 20000 in
theorem w_X10_isDue_0 {g : mm_c} (C : mm_ok g cX10_isDue "LessonCardsModel" (some .boolean) "isDue" 2 1 26 0 0) {M : mm_M} {v0 : Option Nat} {v1 : Int32} {res : Int32} (hf : f_X10_isDue_0 M v0 v1 = some res) (ko : (fun z => mm_q g 0 0 (some (mm_i z)) M) res) : mm_X g 0 0 M 0 [(0, mm_r v0), (1, mm_i v1)] [] := by
  unfold f_X10_isDue_0 at hf
  refine xr_aload_n 1 0 C dX10_isDue_0 rfl rfl rfl ?_
  obtain ⟨x1, h1, hf⟩ := mm_bd_e hf
  refine xr_getI 4 C cf_X10_135 rfl h1 dX10_isDue_1 rfl ?_
  refine xr_if_le 29 7 C dX10_isDue_4 (by decide) rfl (fun hc => ?_) (fun hc => ?_)
  · replace hf := (if_pos hc).symm.trans hf
    refine xr_sub [] (lv2 := []) rfl ?_
    exact w_X10_isDue_29 C hf ko
  · replace hf := (if_neg hc).symm.trans hf
    exact w_X10_isDue_7 C hf ko
noncomputable def f_X10_isDue (M : mm_M) (v0 : Option Nat) (v1 : Int32) : Option (Int32) := f_X10_isDue_0 M v0 v1
theorem c_X10_isDue (l : Launch) (G : va_G) (cy : Nat → ClassId) {M : mm_M} {v0 : Option Nat} {v1 : Int32} {r : Int32} (hf : f_X10_isDue M v0 v1 = some r) : mm_Met l yX10_isDue cX10_isDue 2 (some .boolean) 1 26 0 0 G cy [mm_r v0, mm_i v1] M (some (mm_i r)) M :=
  mm_enter (by decide) (Nat.le_of_ble_eq_true rfl) (fun p e R s m args below meth c Q C hq => xr_sub [0, 1] (lv2 := [(0, mm_r v0), (1, mm_i v1)]) rfl (w_X10_isDue_0 C hf hq))
noncomputable def f_X10_isKnownSide_47 (M : mm_M) (s0 : Int32) : Option (Int32 × mm_M) :=
  mm_gd (s0 = 0 ∨ s0 = 1) <|
  some (s0, M)
set_option maxRecDepth 20000 in
theorem w_X10_isKnownSide_47 {g : mm_c} (C : mm_ok g cX10_isKnownSide "LessonCardsModel" (some .boolean) "isKnownSide" 4 2 47 0 0) {M : mm_M} {s0 : Int32} {res : Int32 × mm_M} (hf : f_X10_isKnownSide_47 M s0 = some res) (ko : (fun z => mm_q g 0 0 (some (mm_i z.1)) z.2) res) : mm_X g 0 0 M 47 [] [mm_i s0] := by
  unfold f_X10_isKnownSide_47 at hf
  obtain ⟨hz, hf⟩ := mm_gd_e hf
  obtain rfl := Option.some.inj hf
  exact xr_zret C hz ko ⟨(Nat.le_of_ble_eq_true rfl), (Nat.le_of_ble_eq_true rfl)⟩ dX10_isKnownSide_47
noncomputable def f_X10_isKnownSide_42 (M : mm_M) : Option (Int32 × mm_M) :=
  f_X10_isKnownSide_47 M 1
set_option maxRecDepth 20000 in
theorem w_X10_isKnownSide_42 {g : mm_c} (C : mm_ok g cX10_isKnownSide "LessonCardsModel" (some .boolean) "isKnownSide" 4 2 47 0 0) {M : mm_M} {res : Int32 × mm_M} (hf : f_X10_isKnownSide_42 M = some res) (ko : (fun z => mm_q g 0 0 (some (mm_i z.1)) z.2) res) : mm_X g 0 0 M 42 [] [] := by
  unfold f_X10_isKnownSide_42 at hf
  refine xr_iconst 43 C (v := 1) dX10_isKnownSide_42 (by decide) rfl ?_
  refine xr_goto 47 C dX10_isKnownSide_43 (by decide) ?_
  exact w_X10_isKnownSide_47 C hf ko
noncomputable def f_X10_isKnownSide_46 (M : mm_M) : Option (Int32 × mm_M) :=
  f_X10_isKnownSide_47 M 0
set_option maxRecDepth 20000 in
theorem w_X10_isKnownSide_46 {g : mm_c} (C : mm_ok g cX10_isKnownSide "LessonCardsModel" (some .boolean) "isKnownSide" 4 2 47 0 0) {M : mm_M} {res : Int32 × mm_M} (hf : f_X10_isKnownSide_46 M = some res) (ko : (fun z => mm_q g 0 0 (some (mm_i z.1)) z.2) res) : mm_X g 0 0 M 46 [] [] := by
  unfold f_X10_isKnownSide_46 at hf
  refine xr_iconst 47 C (v := 0) dX10_isKnownSide_46 (by decide) rfl ?_
  exact w_X10_isKnownSide_47 C hf ko
noncomputable def f_X10_isKnownSide_29 (M : mm_M) (v0 : Option Nat) (v1 : Int32) : Option (Int32 × mm_M) :=
  (mm_fR M v0 11 8).bind fun x31 =>
  (mm_aI M x31 12 v1).bind fun x35 =>
  (mm_rc M v0 11).bind fun u36 =>
  (f_X10_isDue M v0 x35).bind fun x36 =>
  if x36 = 0 then f_X10_isKnownSide_42 M else f_X10_isKnownSide_46 M
set_option maxRecDepth 20000 in
theorem w_X10_isKnownSide_29 {g : mm_c} (C : mm_ok g cX10_isKnownSide "LessonCardsModel" (some .boolean) "isKnownSide" 4 2 47 0 0) {M : mm_M} {v0 : Option Nat} {v1 : Int32} {res : Int32 × mm_M} (hf : f_X10_isKnownSide_29 M v0 v1 = some res) (ko : (fun z => mm_q g 0 0 (some (mm_i z.1)) z.2) res) : mm_X g 0 0 M 29 [(0, mm_r v0), (1, mm_i v1)] [] := by
  unfold f_X10_isKnownSide_29 at hf
  refine xr_aload_n 30 0 C dX10_isKnownSide_29 rfl rfl rfl ?_
  refine xr_aload_n 31 0 C dX10_isKnownSide_30 rfl rfl rfl ?_
  obtain ⟨x31, h31, hf⟩ := mm_bd_e hf
  refine xr_getR 34 C cf_X10_29 rfl h31 dX10_isKnownSide_31 rfl ?_
  refine xr_iload_n 35 1 C dX10_isKnownSide_34 rfl rfl rfl ?_
  obtain ⟨x35, h35, hf⟩ := mm_bd_e hf
  refine xr_aldI 36 C h35 dX10_isKnownSide_35 rfl ?_
  obtain ⟨u36, g36, hf⟩ := mm_bd_e hf
  obtain ⟨x36, h36, hf⟩ := mm_bd_e hf
  refine xr_callV 39 C [mm_i x35] cm_X10_184 (fun l G cy => c_X10_isDue l G cy h36) g36 rfl rfl ⟨⟨Nat.le_of_ble_eq_true rfl, Nat.le_of_ble_eq_true rfl⟩, (Nat.le_of_ble_eq_true rfl), (Nat.le_of_ble_eq_true rfl)⟩ (Nat.le_of_ble_eq_true rfl) dX10_isKnownSide_36 rfl ?_
  refine xr_if_ne 46 42 C dX10_isKnownSide_39 (by decide) rfl (fun hc => ?_) (fun hc => ?_)
  · replace hf := (if_neg hc).symm.trans hf
    refine xr_sub [] (lv2 := []) rfl ?_
    exact w_X10_isKnownSide_46 C hf ko
  · replace hf := (if_pos hc).symm.trans hf
    refine xr_sub [] (lv2 := []) rfl ?_
    exact w_X10_isKnownSide_42 C hf ko
noncomputable def f_X10_isKnownSide_22 (M : mm_M) (v0 : Option Nat) (v1 : Int32) : Option (Int32 × mm_M) :=
  (mm_rc M v0 11).bind fun u23 =>
  (f_X10_isLeech M v0).bind fun x23 =>
  if x23 = 0 then f_X10_isKnownSide_29 M v0 v1 else f_X10_isKnownSide_46 M
set_option maxRecDepth 20000 in
theorem w_X10_isKnownSide_22 {g : mm_c} (C : mm_ok g cX10_isKnownSide "LessonCardsModel" (some .boolean) "isKnownSide" 4 2 47 0 0) {M : mm_M} {v0 : Option Nat} {v1 : Int32} {res : Int32 × mm_M} (hf : f_X10_isKnownSide_22 M v0 v1 = some res) (ko : (fun z => mm_q g 0 0 (some (mm_i z.1)) z.2) res) : mm_X g 0 0 M 22 [(0, mm_r v0), (1, mm_i v1)] [] := by
  unfold f_X10_isKnownSide_22 at hf
  refine xr_aload_n 23 0 C dX10_isKnownSide_22 rfl rfl rfl ?_
  obtain ⟨u23, g23, hf⟩ := mm_bd_e hf
  obtain ⟨x23, h23, hf⟩ := mm_bd_e hf
  refine xr_callV 26 C [] cm_X10_176 (fun l G cy => c_X10_isLeech l G cy h23) g23 rfl rfl ⟨⟨Nat.le_of_ble_eq_true rfl, Nat.le_of_ble_eq_true rfl⟩, (Nat.le_of_ble_eq_true rfl), (Nat.le_of_ble_eq_true rfl)⟩ (Nat.le_of_ble_eq_true rfl) dX10_isKnownSide_23 rfl ?_
  refine xr_if_ne 46 29 C dX10_isKnownSide_26 (by decide) rfl (fun hc => ?_) (fun hc => ?_)
  · replace hf := (if_neg hc).symm.trans hf
    refine xr_sub [] (lv2 := []) rfl ?_
    exact w_X10_isKnownSide_46 C hf ko
  · replace hf := (if_pos hc).symm.trans hf
    exact w_X10_isKnownSide_29 C hf ko
noncomputable def f_X10_isKnownSide_0 (M : mm_M) (v0 : Option Nat) (v1 : Int32) (v2 : Int32) (v3 : Int32) : Option (Int32 × mm_M) :=
  (mm_rc M v0 11).bind fun u12 =>
  (f_X10_take M v0 (((v1 * 480) + (4 * v2)) + v3)).bind fun M12 =>
  (mm_fI M12 v0 11 29).bind fun x16 =>
  if x16 ≤ 0 then f_X10_isKnownSide_46 M12 else f_X10_isKnownSide_22 M12 v0 v1
set_option maxRecDepth 20000 in
theorem w_X10_isKnownSide_0 {g : mm_c} (C : mm_ok g cX10_isKnownSide "LessonCardsModel" (some .boolean) "isKnownSide" 4 2 47 0 0) {M : mm_M} {v0 : Option Nat} {v1 : Int32} {v2 : Int32} {v3 : Int32} {res : Int32 × mm_M} (hf : f_X10_isKnownSide_0 M v0 v1 v2 v3 = some res) (ko : (fun z => mm_q g 0 0 (some (mm_i z.1)) z.2) res) : mm_X g 0 0 M 0 [(0, mm_r v0), (1, mm_i v1), (2, mm_i v2), (3, mm_i v3)] [] := by
  unfold f_X10_isKnownSide_0 at hf
  refine xr_aload_n 1 0 C dX10_isKnownSide_0 rfl rfl rfl ?_
  refine xr_iload_n 2 1 C dX10_isKnownSide_1 rfl rfl rfl ?_
  refine xr_sipush 5 C (v := 480) dX10_isKnownSide_2 (by decide) rfl ?_
  refine xr_imul 6 C dX10_isKnownSide_5 rfl ?_
  refine xr_iconst 7 C (v := 4) dX10_isKnownSide_6 (by decide) rfl ?_
  refine xr_iload_n 8 2 C dX10_isKnownSide_7 rfl rfl rfl ?_
  refine xr_imul 9 C dX10_isKnownSide_8 rfl ?_
  refine xr_iadd 10 C dX10_isKnownSide_9 rfl ?_
  refine xr_iload_n 11 3 C dX10_isKnownSide_10 rfl rfl rfl ?_
  refine xr_iadd 12 C dX10_isKnownSide_11 rfl ?_
  obtain ⟨u12, g12, hf⟩ := mm_bd_e hf
  obtain ⟨M12, h12, hf⟩ := mm_bd_e hf
  refine xr_callV 15 C [mm_i (((v1 * 480) + (4 * v2)) + v3)] cm_X10_180 (fun l G cy => c_X10_take l G cy h12) g12 rfl rfl ⟨⟨Nat.le_of_ble_eq_true rfl, Nat.le_of_ble_eq_true rfl⟩, (Nat.le_of_ble_eq_true rfl), (Nat.le_of_ble_eq_true rfl)⟩ (Nat.le_of_ble_eq_true rfl) dX10_isKnownSide_12 rfl ?_
  refine xr_aload_n 16 0 C dX10_isKnownSide_15 rfl rfl rfl ?_
  obtain ⟨x16, h16, hf⟩ := mm_bd_e hf
  refine xr_getI 19 C cf_X10_135 rfl h16 dX10_isKnownSide_16 rfl ?_
  refine xr_if_le 46 22 C dX10_isKnownSide_19 (by decide) rfl (fun hc => ?_) (fun hc => ?_)
  · replace hf := (if_pos hc).symm.trans hf
    refine xr_sub [] (lv2 := []) rfl ?_
    exact w_X10_isKnownSide_46 C hf ko
  · replace hf := (if_neg hc).symm.trans hf
    refine xr_sub [0, 1] (lv2 := [(0, mm_r v0), (1, mm_i v1)]) rfl ?_
    exact w_X10_isKnownSide_22 C hf ko
noncomputable def f_X10_isKnownSide (M : mm_M) (v0 : Option Nat) (v1 : Int32) (v2 : Int32) (v3 : Int32) : Option (Int32 × mm_M) := f_X10_isKnownSide_0 M v0 v1 v2 v3
theorem c_X10_isKnownSide (l : Launch) (G : va_G) (cy : Nat → ClassId) {M : mm_M} {v0 : Option Nat} {v1 : Int32} {v2 : Int32} {v3 : Int32} {r : Int32} {M1 : mm_M} (hf : f_X10_isKnownSide M v0 v1 v2 v3 = some (r, M1)) : mm_Met l yX10_isKnownSide cX10_isKnownSide 4 (some .boolean) 2 47 0 0 G cy [mm_r v0, mm_i v1, mm_i v2, mm_i v3] M (some (mm_i r)) M1 :=
  mm_enter (by decide) (Nat.le_of_ble_eq_true rfl) (fun p e R s m args below meth c Q C hq => xr_sub [0, 1, 2, 3] (lv2 := [(0, mm_r v0), (1, mm_i v1), (2, mm_i v2), (3, mm_i v3)]) rfl (w_X10_isKnownSide_0 C hf hq))
def h_X10_isKnown_5 (g : mm_c) (v0 : Option Nat) (v1 : Int32) (v2 : Int32) : (mm_M × Int32 × Int32) → Prop := fun x => mm_X g 0 0 x.1 5 [(0, mm_r v0), (1, mm_i v1), (2, mm_i v2), (3, mm_i x.2.1), (4, mm_i x.2.2)] []
noncomputable def f_X10_isKnown_36 (M : mm_M) (v0 : Option Nat) (v1 : Int32) (v2 : Int32) (v4 : Int32) (s0 : Int32) : Option ((mm_M × Int32 × Int32) ⊕ (Int32 × mm_M)) :=
  some (.inl (M, s0, (v4 + 1)))
set_option maxRecDepth 20000 in
theorem w_X10_isKnown_36 {g : mm_c} (C : mm_ok g cX10_isKnown "LessonCardsModel" (some .boolean) "isKnown" 5 3 70 0 0) {M : mm_M} {v0 : Option Nat} {v1 : Int32} {v2 : Int32} {v4 : Int32} {s0 : Int32} {res : (mm_M × Int32 × Int32) ⊕ (Int32 × mm_M)} (hf : f_X10_isKnown_36 M v0 v1 v2 v4 s0 = some res) (ko : (mm_o (h_X10_isKnown_5 g v0 v1 v2) (fun z => mm_q g 0 0 (some (mm_i z.1)) z.2)) res) : mm_X g 0 0 M 36 [(0, mm_r v0), (1, mm_i v1), (2, mm_i v2), (4, mm_i v4)] [mm_i s0] := by
  unfold f_X10_isKnown_36 at hf
  refine xr_istore_n 37 C dX10_isKnown_36 rfl (by decide) rfl [(3, mm_i s0), (0, mm_r v0), (1, mm_i v1), (2, mm_i v2), (4, mm_i v4)] rfl ?_
  refine xr_iinc 40 4 C dX10_isKnown_37 rfl (by decide) (v := 1) (by decide) rfl [(4, mm_i (v4 + 1)), (3, mm_i s0), (0, mm_r v0), (1, mm_i v1), (2, mm_i v2)] rfl ?_
  refine xr_goto 5 C dX10_isKnown_40 (by decide) ?_
  refine xr_sub [2, 3, 4, 1, 0] (lv2 := [(0, mm_r v0), (1, mm_i v1), (2, mm_i v2), (3, mm_i s0), (4, mm_i (v4 + 1))]) rfl ?_
  obtain rfl := Option.some.inj hf
  exact ko
noncomputable def f_X10_isKnown_31 (M : mm_M) (v0 : Option Nat) (v1 : Int32) (v2 : Int32) (v4 : Int32) : Option ((mm_M × Int32 × Int32) ⊕ (Int32 × mm_M)) :=
  f_X10_isKnown_36 M v0 v1 v2 v4 1
set_option maxRecDepth 20000 in
theorem w_X10_isKnown_31 {g : mm_c} (C : mm_ok g cX10_isKnown "LessonCardsModel" (some .boolean) "isKnown" 5 3 70 0 0) {M : mm_M} {v0 : Option Nat} {v1 : Int32} {v2 : Int32} {v4 : Int32} {res : (mm_M × Int32 × Int32) ⊕ (Int32 × mm_M)} (hf : f_X10_isKnown_31 M v0 v1 v2 v4 = some res) (ko : (mm_o (h_X10_isKnown_5 g v0 v1 v2) (fun z => mm_q g 0 0 (some (mm_i z.1)) z.2)) res) : mm_X g 0 0 M 31 [(0, mm_r v0), (1, mm_i v1), (2, mm_i v2), (4, mm_i v4)] [] := by
  unfold f_X10_isKnown_31 at hf
  refine xr_iconst 32 C (v := 1) dX10_isKnown_31 (by decide) rfl ?_
  refine xr_goto 36 C dX10_isKnown_32 (by decide) ?_
  exact w_X10_isKnown_36 C hf ko
noncomputable def f_X10_isKnown_35 (M : mm_M) (v0 : Option Nat) (v1 : Int32) (v2 : Int32) (v4 : Int32) : Option ((mm_M × Int32 × Int32) ⊕ (Int32 × mm_M)) :=
  f_X10_isKnown_36 M v0 v1 v2 v4 0
set_option maxRecDepth 20000 in
theorem w_X10_isKnown_35 {g : mm_c} (C : mm_ok g cX10_isKnown "LessonCardsModel" (some .boolean) "isKnown" 5 3 70 0 0) {M : mm_M} {v0 : Option Nat} {v1 : Int32} {v2 : Int32} {v4 : Int32} {res : (mm_M × Int32 × Int32) ⊕ (Int32 × mm_M)} (hf : f_X10_isKnown_35 M v0 v1 v2 v4 = some res) (ko : (mm_o (h_X10_isKnown_5 g v0 v1 v2) (fun z => mm_q g 0 0 (some (mm_i z.1)) z.2)) res) : mm_X g 0 0 M 35 [(0, mm_r v0), (1, mm_i v1), (2, mm_i v2), (4, mm_i v4)] [] := by
  unfold f_X10_isKnown_35 at hf
  refine xr_iconst 36 C (v := 0) dX10_isKnown_35 (by decide) rfl ?_
  exact w_X10_isKnown_36 C hf ko
noncomputable def f_X10_isKnown_20 (M : mm_M) (v0 : Option Nat) (v1 : Int32) (v2 : Int32) (v4 : Int32) : Option ((mm_M × Int32 × Int32) ⊕ (Int32 × mm_M)) :=
  (mm_rc M v0 11).bind fun u25 =>
  mm_b2 (f_X10_isKnownSide M v0 v1 v2 v4) fun x25 M25 =>
  if x25 = 0 then f_X10_isKnown_35 M25 v0 v1 v2 v4 else f_X10_isKnown_31 M25 v0 v1 v2 v4
set_option maxRecDepth 20000 in
theorem w_X10_isKnown_20 {g : mm_c} (C : mm_ok g cX10_isKnown "LessonCardsModel" (some .boolean) "isKnown" 5 3 70 0 0) {M : mm_M} {v0 : Option Nat} {v1 : Int32} {v2 : Int32} {v4 : Int32} {res : (mm_M × Int32 × Int32) ⊕ (Int32 × mm_M)} (hf : f_X10_isKnown_20 M v0 v1 v2 v4 = some res) (ko : (mm_o (h_X10_isKnown_5 g v0 v1 v2) (fun z => mm_q g 0 0 (some (mm_i z.1)) z.2)) res) : mm_X g 0 0 M 20 [(0, mm_r v0), (1, mm_i v1), (2, mm_i v2), (4, mm_i v4)] [] := by
  unfold f_X10_isKnown_20 at hf
  refine xr_aload_n 21 0 C dX10_isKnown_20 rfl rfl rfl ?_
  refine xr_iload_n 22 1 C dX10_isKnown_21 rfl rfl rfl ?_
  refine xr_iload_n 23 2 C dX10_isKnown_22 rfl rfl rfl ?_
  refine xr_iload 25 3 C dX10_isKnown_23 rfl rfl ?_
  obtain ⟨u25, g25, hf⟩ := mm_bd_e hf
  obtain ⟨x25, M25, h25, hf⟩ := mm_b2_e hf
  refine xr_callV 28 C [mm_i v1, mm_i v2, mm_i v4] cm_X10_187 (fun l G cy => c_X10_isKnownSide l G cy h25) g25 rfl rfl ⟨⟨Nat.le_of_ble_eq_true rfl, Nat.le_of_ble_eq_true rfl⟩, (Nat.le_of_ble_eq_true rfl), (Nat.le_of_ble_eq_true rfl)⟩ (Nat.le_of_ble_eq_true rfl) dX10_isKnown_25 rfl ?_
  refine xr_if_eq 35 31 C dX10_isKnown_28 (by decide) rfl (fun hc => ?_) (fun hc => ?_)
  · replace hf := (if_pos hc).symm.trans hf
    exact w_X10_isKnown_35 C hf ko
  · replace hf := (if_neg hc).symm.trans hf
    exact w_X10_isKnown_31 C hf ko
noncomputable def f_X10_isKnown_16 (M : mm_M) (v0 : Option Nat) (v1 : Int32) (v2 : Int32) (v3 : Int32) (v4 : Int32) : Option ((mm_M × Int32 × Int32) ⊕ (Int32 × mm_M)) :=
  if v3 = 0 then f_X10_isKnown_35 M v0 v1 v2 v4 else f_X10_isKnown_20 M v0 v1 v2 v4
set_option maxRecDepth 20000 in
theorem w_X10_isKnown_16 {g : mm_c} (C : mm_ok g cX10_isKnown "LessonCardsModel" (some .boolean) "isKnown" 5 3 70 0 0) {M : mm_M} {v0 : Option Nat} {v1 : Int32} {v2 : Int32} {v3 : Int32} {v4 : Int32} {res : (mm_M × Int32 × Int32) ⊕ (Int32 × mm_M)} (hf : f_X10_isKnown_16 M v0 v1 v2 v3 v4 = some res) (ko : (mm_o (h_X10_isKnown_5 g v0 v1 v2) (fun z => mm_q g 0 0 (some (mm_i z.1)) z.2)) res) : mm_X g 0 0 M 16 [(0, mm_r v0), (1, mm_i v1), (2, mm_i v2), (3, mm_i v3), (4, mm_i v4)] [] := by
  unfold f_X10_isKnown_16 at hf
  refine xr_iload_n 17 3 C dX10_isKnown_16 rfl rfl rfl ?_
  refine xr_if_eq 35 20 C dX10_isKnown_17 (by decide) rfl (fun hc => ?_) (fun hc => ?_)
  · replace hf := (if_pos hc).symm.trans hf
    refine xr_sub [0, 1, 2, 4] (lv2 := [(0, mm_r v0), (1, mm_i v1), (2, mm_i v2), (4, mm_i v4)]) rfl ?_
    exact w_X10_isKnown_35 C hf ko
  · replace hf := (if_neg hc).symm.trans hf
    refine xr_sub [0, 1, 2, 4] (lv2 := [(0, mm_r v0), (1, mm_i v1), (2, mm_i v2), (4, mm_i v4)]) rfl ?_
    exact w_X10_isKnown_20 C hf ko
noncomputable def f_X10_isKnown_43 (M : mm_M) (v3 : Int32) : Option (Int32 × mm_M) :=
  mm_gd (v3 = 0 ∨ v3 = 1) <|
  some (v3, M)
set_option maxRecDepth 20000 in
theorem w_X10_isKnown_43 {g : mm_c} (C : mm_ok g cX10_isKnown "LessonCardsModel" (some .boolean) "isKnown" 5 3 70 0 0) {M : mm_M} {v3 : Int32} {res : Int32 × mm_M} (hf : f_X10_isKnown_43 M v3 = some res) (ko : (fun z => mm_q g 0 0 (some (mm_i z.1)) z.2) res) : mm_X g 0 0 M 43 [(3, mm_i v3)] [] := by
  unfold f_X10_isKnown_43 at hf
  refine xr_iload_n 44 0 C dX10_isKnown_43 rfl rfl rfl ?_
  obtain ⟨hz, hf⟩ := mm_gd_e hf
  obtain rfl := Option.some.inj hf
  exact xr_zret C hz ko ⟨(Nat.le_of_ble_eq_true rfl), (Nat.le_of_ble_eq_true rfl)⟩ dX10_isKnown_44
noncomputable def f_X10_isKnown_5 (M : mm_M) (v0 : Option Nat) (v1 : Int32) (v2 : Int32) (v3 : Int32) (v4 : Int32) : Option ((mm_M × Int32 × Int32) ⊕ (Int32 × mm_M)) :=
  (mm_fR M v0 11 0).bind fun x8 =>
  (mm_aI M x8 12 v2).bind fun x12 =>
  if x12 ≤ v4 then mm_mp (f_X10_isKnown_43 M v3) else f_X10_isKnown_16 M v0 v1 v2 v3 v4
set_option maxRecDepth 20000 in
theorem w_X10_isKnown_5 {g : mm_c} (C : mm_ok g cX10_isKnown "LessonCardsModel" (some .boolean) "isKnown" 5 3 70 0 0) {M : mm_M} {v0 : Option Nat} {v1 : Int32} {v2 : Int32} {v3 : Int32} {v4 : Int32} {res : (mm_M × Int32 × Int32) ⊕ (Int32 × mm_M)} (hf : f_X10_isKnown_5 M v0 v1 v2 v3 v4 = some res) (ko : (mm_o (h_X10_isKnown_5 g v0 v1 v2) (fun z => mm_q g 0 0 (some (mm_i z.1)) z.2)) res) : mm_X g 0 0 M 5 [(0, mm_r v0), (1, mm_i v1), (2, mm_i v2), (3, mm_i v3), (4, mm_i v4)] [] := by
  unfold f_X10_isKnown_5 at hf
  refine xr_iload 7 4 C dX10_isKnown_5 rfl rfl ?_
  refine xr_aload_n 8 0 C dX10_isKnown_7 rfl rfl rfl ?_
  obtain ⟨x8, h8, hf⟩ := mm_bd_e hf
  refine xr_getR 11 C cf_X10_9 rfl h8 dX10_isKnown_8 rfl ?_
  refine xr_iload_n 12 2 C dX10_isKnown_11 rfl rfl rfl ?_
  obtain ⟨x12, h12, hf⟩ := mm_bd_e hf
  refine xr_aldI 13 C h12 dX10_isKnown_12 rfl ?_
  refine xr_icmp_ge 43 16 C dX10_isKnown_13 (by decide) rfl (fun hc => ?_) (fun hc => ?_)
  · replace hf := (if_pos hc).symm.trans hf
    refine xr_sub [3] (lv2 := [(3, mm_i v3)]) rfl ?_
    obtain ⟨z, hf2, rfl⟩ := mm_mp_e hf
    clear hf
    have hf := hf2
    clear hf2
    exact w_X10_isKnown_43 C hf ko
  · replace hf := (if_neg hc).symm.trans hf
    exact w_X10_isKnown_16 C hf ko
noncomputable def f_X10_isKnown_5w (M : mm_M) (v0 : Option Nat) (v1 : Int32) (v2 : Int32) (v3 : Int32) (v4 : Int32) : Option (Int32 × mm_M) := mm_w (fun x => f_X10_isKnown_5 x.1 v0 v1 v2 x.2.1 x.2.2) (M, v3, v4)
theorem l_X10_isKnown_5 {g : mm_c} (C : mm_ok g cX10_isKnown "LessonCardsModel" (some .boolean) "isKnown" 5 3 70 0 0) {M : mm_M} {v0 : Option Nat} {v1 : Int32} {v2 : Int32} {v3 : Int32} {v4 : Int32} {res : Int32 × mm_M} (hf : f_X10_isKnown_5w M v0 v1 v2 v3 v4 = some res) (ko : (fun z => mm_q g 0 0 (some (mm_i z.1)) z.2) res) : mm_X g 0 0 M 5 [(0, mm_r v0), (1, mm_i v1), (2, mm_i v2), (3, mm_i v3), (4, mm_i v4)] [] :=
  mm_w_W (body := fun x => f_X10_isKnown_5 x.1 v0 v1 v2 x.2.1 x.2.2) (Wh := h_X10_isKnown_5 g v0 v1 v2) (ok := (fun z => mm_q g 0 0 (some (mm_i z.1)) z.2)) (x := (M, v3, v4)) (fun x r hb ho => w_X10_isKnown_5 C hb ho) hf ko
noncomputable def f_X10_isKnown_0 (M : mm_M) (v0 : Option Nat) (v1 : Int32) (v2 : Int32) : Option (Int32 × mm_M) :=
  f_X10_isKnown_5w M v0 v1 v2 1 0
set_option maxRecDepth 20000 in
theorem w_X10_isKnown_0 {g : mm_c} (C : mm_ok g cX10_isKnown "LessonCardsModel" (some .boolean) "isKnown" 5 3 70 0 0) {M : mm_M} {v0 : Option Nat} {v1 : Int32} {v2 : Int32} {res : Int32 × mm_M} (hf : f_X10_isKnown_0 M v0 v1 v2 = some res) (ko : (fun z => mm_q g 0 0 (some (mm_i z.1)) z.2) res) : mm_X g 0 0 M 0 [(0, mm_r v0), (1, mm_i v1), (2, mm_i v2)] [] := by
  unfold f_X10_isKnown_0 at hf
  refine xr_iconst 1 C (v := 1) dX10_isKnown_0 (by decide) rfl ?_
  refine xr_istore_n 2 C dX10_isKnown_1 rfl (by decide) rfl [(3, mm_i 1), (0, mm_r v0), (1, mm_i v1), (2, mm_i v2)] rfl ?_
  refine xr_iconst 3 C (v := 0) dX10_isKnown_2 (by decide) rfl ?_
  refine xr_istore 5 C dX10_isKnown_3 (by decide) rfl [(4, mm_i 0), (3, mm_i 1), (0, mm_r v0), (1, mm_i v1), (2, mm_i v2)] rfl ?_
  refine xr_sub [2, 3, 4, 1, 0] (lv2 := [(0, mm_r v0), (1, mm_i v1), (2, mm_i v2), (3, mm_i 1), (4, mm_i 0)]) rfl ?_
  exact l_X10_isKnown_5 C hf ko
noncomputable def f_X10_isKnown (M : mm_M) (v0 : Option Nat) (v1 : Int32) (v2 : Int32) : Option (Int32 × mm_M) := f_X10_isKnown_0 M v0 v1 v2
theorem c_X10_isKnown (l : Launch) (G : va_G) (cy : Nat → ClassId) {M : mm_M} {v0 : Option Nat} {v1 : Int32} {v2 : Int32} {r : Int32} {M1 : mm_M} (hf : f_X10_isKnown M v0 v1 v2 = some (r, M1)) : mm_Met l yX10_isKnown cX10_isKnown 5 (some .boolean) 3 70 0 0 G cy [mm_r v0, mm_i v1, mm_i v2] M (some (mm_i r)) M1 :=
  mm_enter (by decide) (Nat.le_of_ble_eq_true rfl) (fun p e R s m args below meth c Q C hq => xr_sub [0, 1, 2] (lv2 := [(0, mm_r v0), (1, mm_i v1), (2, mm_i v2)]) rfl (w_X10_isKnown_0 C hf hq))
