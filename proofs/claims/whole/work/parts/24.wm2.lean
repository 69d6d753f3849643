noncomputable def f_X10_memory_16 (M : mm_M) : Option (Int32 × mm_M) :=
  some ((-2), M)
set_option maxRecDepth 20000 in
theorem w_X10_memory_16 {g : mm_c} (C : mm_ok g cX10_memory "LessonCardsModel" (some .int) "memory" 6 3 70 0 0) {M : mm_M} {res : Int32 × mm_M} (hf : f_X10_memory_16 M = some res) (ko : (fun z => mm_q g 0 0 (some (mm_i z.1)) z.2) res) : mm_X g 0 0 M 16 [] [] := by
  unfold f_X10_memory_16 at hf
  refine xr_bipush 18 C (v := (-2)) dX10_memory_16 (by decide) rfl ?_
  obtain rfl := Option.some.inj hf
  exact xr_iret C ko ⟨(Nat.le_of_ble_eq_true rfl), (Nat.le_of_ble_eq_true rfl)⟩ dX10_memory_18
noncomputable def f_X10_memory_207 (M : mm_M) : Option (Int32 × mm_M) :=
  some ((-2), M)
set_option maxRecDepth 20000 in
theorem w_X10_memory_207 {g : mm_c} (C : mm_ok g cX10_memory "LessonCardsModel" (some .int) "memory" 6 3 70 0 0) {M : mm_M} {res : Int32 × mm_M} (hf : f_X10_memory_207 M = some res) (ko : (fun z => mm_q g 0 0 (some (mm_i z.1)) z.2) res) : mm_X g 0 0 M 207 [] [] := by
  unfold f_X10_memory_207 at hf
  refine xr_bipush 209 C (v := (-2)) dX10_memory_207 (by decide) rfl ?_
  obtain rfl := Option.some.inj hf
  exact xr_iret C ko ⟨(Nat.le_of_ble_eq_true rfl), (Nat.le_of_ble_eq_true rfl)⟩ dX10_memory_209
noncomputable def f_X10_memory_96 (M : mm_M) (v0 : Option Nat) : Option (Int32 × mm_M) :=
  (mm_fI M v0 11 29).bind fun x97 =>
  some (x97, M)
set_option maxRecDepth 20000 in
theorem w_X10_memory_96 {g : mm_c} (C : mm_ok g cX10_memory "LessonCardsModel" (some .int) "memory" 6 3 70 0 0) {M : mm_M} {v0 : Option Nat} {res : Int32 × mm_M} (hf : f_X10_memory_96 M v0 = some res) (ko : (fun z => mm_q g 0 0 (some (mm_i z.1)) z.2) res) : mm_X g 0 0 M 96 [(0, mm_r v0)] [] := by
  unfold f_X10_memory_96 at hf
  refine xr_aload_n 97 0 C dX10_memory_96 rfl rfl rfl ?_
  obtain ⟨x97, h97, hf⟩ := mm_bd_e hf
  refine xr_getI 100 C cf_X10_135 rfl h97 dX10_memory_97 rfl ?_
  obtain rfl := Option.some.inj hf
  exact xr_iret C ko ⟨(Nat.le_of_ble_eq_true rfl), (Nat.le_of_ble_eq_true rfl)⟩ dX10_memory_100
noncomputable def f_X10_memory_101 (M : mm_M) (v0 : Option Nat) : Option (Int32 × mm_M) :=
  (mm_fI M v0 11 30).bind fun x102 =>
  some (x102, M)
set_option maxRecDepth 20000 in
theorem w_X10_memory_101 {g : mm_c} (C : mm_ok g cX10_memory "LessonCardsModel" (some .int) "memory" 6 3 70 0 0) {M : mm_M} {v0 : Option Nat} {res : Int32 × mm_M} (hf : f_X10_memory_101 M v0 = some res) (ko : (fun z => mm_q g 0 0 (some (mm_i z.1)) z.2) res) : mm_X g 0 0 M 101 [(0, mm_r v0)] [] := by
  unfold f_X10_memory_101 at hf
  refine xr_aload_n 102 0 C dX10_memory_101 rfl rfl rfl ?_
  obtain ⟨x102, h102, hf⟩ := mm_bd_e hf
  refine xr_getI 105 C cf_X10_138 rfl h102 dX10_memory_102 rfl ?_
  obtain rfl := Option.some.inj hf
  exact xr_iret C ko ⟨(Nat.le_of_ble_eq_true rfl), (Nat.le_of_ble_eq_true rfl)⟩ dX10_memory_105
noncomputable def f_X10_memory_106 (M : mm_M) (v0 : Option Nat) : Option (Int32 × mm_M) :=
  (mm_fI M v0 11 31).bind fun x107 =>
  some (x107, M)
set_option maxRecDepth 20000 in
theorem w_X10_memory_106 {g : mm_c} (C : mm_ok g cX10_memory "LessonCardsModel" (some .int) "memory" 6 3 70 0 0) {M : mm_M} {v0 : Option Nat} {res : Int32 × mm_M} (hf : f_X10_memory_106 M v0 = some res) (ko : (fun z => mm_q g 0 0 (some (mm_i z.1)) z.2) res) : mm_X g 0 0 M 106 [(0, mm_r v0)] [] := by
  unfold f_X10_memory_106 at hf
  refine xr_aload_n 107 0 C dX10_memory_106 rfl rfl rfl ?_
  obtain ⟨x107, h107, hf⟩ := mm_bd_e hf
  refine xr_getI 110 C cf_X10_141 rfl h107 dX10_memory_107 rfl ?_
  obtain rfl := Option.some.inj hf
  exact xr_iret C ko ⟨(Nat.le_of_ble_eq_true rfl), (Nat.le_of_ble_eq_true rfl)⟩ dX10_memory_110
noncomputable def f_X10_memory_111 (M : mm_M) (v0 : Option Nat) : Option (Int32 × mm_M) :=
  (mm_fI M v0 11 32).bind fun x112 =>
  some (x112, M)
set_option maxRecDepth 20000 in
theorem w_X10_memory_111 {g : mm_c} (C : mm_ok g cX10_memory "LessonCardsModel" (some .int) "memory" 6 3 70 0 0) {M : mm_M} {v0 : Option Nat} {res : Int32 × mm_M} (hf : f_X10_memory_111 M v0 = some res) (ko : (fun z => mm_q g 0 0 (some (mm_i z.1)) z.2) res) : mm_X g 0 0 M 111 [(0, mm_r v0)] [] := by
  unfold f_X10_memory_111 at hf
  refine xr_aload_n 112 0 C dX10_memory_111 rfl rfl rfl ?_
  obtain ⟨x112, h112, hf⟩ := mm_bd_e hf
  refine xr_getI 115 C cf_X10_144 rfl h112 dX10_memory_112 rfl ?_
  obtain rfl := Option.some.inj hf
  exact xr_iret C ko ⟨(Nat.le_of_ble_eq_true rfl), (Nat.le_of_ble_eq_true rfl)⟩ dX10_memory_115
noncomputable def f_X10_memory_116 (M : mm_M) (v0 : Option Nat) : Option (Int32 × mm_M) :=
  (mm_fI M v0 11 33).bind fun x117 =>
  some (x117, M)
set_option maxRecDepth 20000 in
theorem w_X10_memory_116 {g : mm_c} (C : mm_ok g cX10_memory "LessonCardsModel" (some .int) "memory" 6 3 70 0 0) {M : mm_M} {v0 : Option Nat} {res : Int32 × mm_M} (hf : f_X10_memory_116 M v0 = some res) (ko : (fun z => mm_q g 0 0 (some (mm_i z.1)) z.2) res) : mm_X g 0 0 M 116 [(0, mm_r v0)] [] := by
  unfold f_X10_memory_116 at hf
  refine xr_aload_n 117 0 C dX10_memory_116 rfl rfl rfl ?_
  obtain ⟨x117, h117, hf⟩ := mm_bd_e hf
  refine xr_getI 120 C cf_X10_147 rfl h117 dX10_memory_117 rfl ?_
  obtain rfl := Option.some.inj hf
  exact xr_iret C ko ⟨(Nat.le_of_ble_eq_true rfl), (Nat.le_of_ble_eq_true rfl)⟩ dX10_memory_120
noncomputable def f_X10_memory_142 (M : mm_M) (s0 : Int32) : Option (Int32 × mm_M) :=
  some (s0, M)
set_option maxRecDepth 20000 in
theorem w_X10_memory_142 {g : mm_c} (C : mm_ok g cX10_memory "LessonCardsModel" (some .int) "memory" 6 3 70 0 0) {M : mm_M} {s0 : Int32} {res : Int32 × mm_M} (hf : f_X10_memory_142 M s0 = some res) (ko : (fun z => mm_q g 0 0 (some (mm_i z.1)) z.2) res) : mm_X g 0 0 M 142 [] [mm_i s0] := by
  unfold f_X10_memory_142 at hf
  obtain rfl := Option.some.inj hf
  exact xr_iret C ko ⟨(Nat.le_of_ble_eq_true rfl), (Nat.le_of_ble_eq_true rfl)⟩ dX10_memory_142
noncomputable def f_X10_memory_128 (M : mm_M) : Option (Int32 × mm_M) :=
  f_X10_memory_142 M 0
set_option maxRecDepth 20000 in
theorem w_X10_memory_128 {g : mm_c} (C : mm_ok g cX10_memory "LessonCardsModel" (some .int) "memory" 6 3 70 0 0) {M : mm_M} {res : Int32 × mm_M} (hf : f_X10_memory_128 M = some res) (ko : (fun z => mm_q g 0 0 (some (mm_i z.1)) z.2) res) : mm_X g 0 0 M 128 [] [] := by
  unfold f_X10_memory_128 at hf
  refine xr_iconst 129 C (v := 0) dX10_memory_128 (by decide) rfl ?_
  refine xr_goto 142 C dX10_memory_129 (by decide) ?_
  exact w_X10_memory_142 C hf ko
noncomputable def f_X10_memory_132 (M : mm_M) (v0 : Option Nat) (v1 : Int32) : Option (Int32 × mm_M) :=
  (mm_fR M v0 11 8).bind fun x134 =>
  (mm_aI M x134 12 v1).bind fun x138 =>
  (mm_rc M v0 11).bind fun u139 =>
  (f_X10_chance M v0 x138).bind fun x139 =>
  f_X10_memory_142 M x139
set_option maxRecDepth 20000 in
theorem w_X10_memory_132 {g : mm_c} (C : mm_ok g cX10_memory "LessonCardsModel" (some .int) "memory" 6 3 70 0 0) {M : mm_M} {v0 : Option Nat} {v1 : Int32} {res : Int32 × mm_M} (hf : f_X10_memory_132 M v0 v1 = some res) (ko : (fun z => mm_q g 0 0 (some (mm_i z.1)) z.2) res) : mm_X g 0 0 M 132 [(0, mm_r v0), (1, mm_i v1)] [] := by
  unfold f_X10_memory_132 at hf
  refine xr_aload_n 133 0 C dX10_memory_132 rfl rfl rfl ?_
  refine xr_aload_n 134 0 C dX10_memory_133 rfl rfl rfl ?_
  obtain ⟨x134, h134, hf⟩ := mm_bd_e hf
  refine xr_getR 137 C cf_X10_29 rfl h134 dX10_memory_134 rfl ?_
  refine xr_iload_n 138 1 C dX10_memory_137 rfl rfl rfl ?_
  obtain ⟨x138, h138, hf⟩ := mm_bd_e hf
  refine xr_aldI 139 C h138 dX10_memory_138 rfl ?_
  obtain ⟨u139, g139, hf⟩ := mm_bd_e hf
  obtain ⟨x139, h139, hf⟩ := mm_bd_e hf
  refine xr_callV 142 C [mm_i x138] cm_X10_162 (fun l G cy => c_X10_chance l G cy h139) g139 rfl rfl ⟨⟨Nat.le_of_ble_eq_true rfl, Nat.le_of_ble_eq_true rfl⟩, (Nat.le_of_ble_eq_true rfl), (Nat.le_of_ble_eq_true rfl)⟩ (Nat.le_of_ble_eq_true rfl) dX10_memory_139 rfl ?_
  refine xr_sub [] (lv2 := []) rfl ?_
  exact w_X10_memory_142 C hf ko
noncomputable def f_X10_memory_121 (M : mm_M) (v0 : Option Nat) (v1 : Int32) : Option (Int32 × mm_M) :=
  (mm_fI M v0 11 29).bind fun x122 =>
  if x122 = 0 then f_X10_memory_128 M else f_X10_memory_132 M v0 v1
set_option maxRecDepth 20000 in
theorem w_X10_memory_121 {g : mm_c} (C : mm_ok g cX10_memory "LessonCardsModel" (some .int) "memory" 6 3 70 0 0) {M : mm_M} {v0 : Option Nat} {v1 : Int32} {res : Int32 × mm_M} (hf : f_X10_memory_121 M v0 v1 = some res) (ko : (fun z => mm_q g 0 0 (some (mm_i z.1)) z.2) res) : mm_X g 0 0 M 121 [(0, mm_r v0), (1, mm_i v1)] [] := by
  unfold f_X10_memory_121 at hf
  refine xr_aload_n 122 0 C dX10_memory_121 rfl rfl rfl ?_
  obtain ⟨x122, h122, hf⟩ := mm_bd_e hf
  refine xr_getI 125 C cf_X10_135 rfl h122 dX10_memory_122 rfl ?_
  refine xr_if_ne 132 128 C dX10_memory_125 (by decide) rfl (fun hc => ?_) (fun hc => ?_)
  · replace hf := (if_neg hc).symm.trans hf
    exact w_X10_memory_132 C hf ko
  · replace hf := (if_pos hc).symm.trans hf
    refine xr_sub [] (lv2 := []) rfl ?_
    exact w_X10_memory_128 C hf ko
noncomputable def f_X10_memory_161 (M : mm_M) (s0 : Int32) : Option (Int32 × mm_M) :=
  some (s0, M)
set_option maxRecDepth 20000 in
theorem w_X10_memory_161 {g : mm_c} (C : mm_ok g cX10_memory "LessonCardsModel" (some .int) "memory" 6 3 70 0 0) {M : mm_M} {s0 : Int32} {res : Int32 × mm_M} (hf : f_X10_memory_161 M s0 = some res) (ko : (fun z => mm_q g 0 0 (some (mm_i z.1)) z.2) res) : mm_X g 0 0 M 161 [] [mm_i s0] := by
  unfold f_X10_memory_161 at hf
  obtain rfl := Option.some.inj hf
  exact xr_iret C ko ⟨(Nat.le_of_ble_eq_true rfl), (Nat.le_of_ble_eq_true rfl)⟩ dX10_memory_161
noncomputable def f_X10_memory_156 (M : mm_M) : Option (Int32 × mm_M) :=
  f_X10_memory_161 M 1
set_option maxRecDepth 20000 in
theorem w_X10_memory_156 {g : mm_c} (C : mm_ok g cX10_memory "LessonCardsModel" (some .int) "memory" 6 3 70 0 0) {M : mm_M} {res : Int32 × mm_M} (hf : f_X10_memory_156 M = some res) (ko : (fun z => mm_q g 0 0 (some (mm_i z.1)) z.2) res) : mm_X g 0 0 M 156 [] [] := by
  unfold f_X10_memory_156 at hf
  refine xr_iconst 157 C (v := 1) dX10_memory_156 (by decide) rfl ?_
  refine xr_goto 161 C dX10_memory_157 (by decide) ?_
  exact w_X10_memory_161 C hf ko
noncomputable def f_X10_memory_160 (M : mm_M) : Option (Int32 × mm_M) :=
  f_X10_memory_161 M 0
set_option maxRecDepth 20000 in
theorem w_X10_memory_160 {g : mm_c} (C : mm_ok g cX10_memory "LessonCardsModel" (some .int) "memory" 6 3 70 0 0) {M : mm_M} {res : Int32 × mm_M} (hf : f_X10_memory_160 M = some res) (ko : (fun z => mm_q g 0 0 (some (mm_i z.1)) z.2) res) : mm_X g 0 0 M 160 [] [] := by
  unfold f_X10_memory_160 at hf
  refine xr_iconst 161 C (v := 0) dX10_memory_160 (by decide) rfl ?_
  exact w_X10_memory_161 C hf ko
noncomputable def f_X10_memory_143 (M : mm_M) (v0 : Option Nat) (v1 : Int32) : Option (Int32 × mm_M) :=
  (mm_fR M v0 11 8).bind fun x145 =>
  (mm_aI M x145 12 v1).bind fun x149 =>
  (mm_rc M v0 11).bind fun u150 =>
  (f_X10_isDue M v0 x149).bind fun x150 =>
  if x150 = 0 then f_X10_memory_160 M else f_X10_memory_156 M
set_option maxRecDepth 20000 in
theorem w_X10_memory_143 {g : mm_c} (C : mm_ok g cX10_memory "LessonCardsModel" (some .int) "memory" 6 3 70 0 0) {M : mm_M} {v0 : Option Nat} {v1 : Int32} {res : Int32 × mm_M} (hf : f_X10_memory_143 M v0 v1 = some res) (ko : (fun z => mm_q g 0 0 (some (mm_i z.1)) z.2) res) : mm_X g 0 0 M 143 [(0, mm_r v0), (1, mm_i v1)] [] := by
  unfold f_X10_memory_143 at hf
  refine xr_aload_n 144 0 C dX10_memory_143 rfl rfl rfl ?_
  refine xr_aload_n 145 0 C dX10_memory_144 rfl rfl rfl ?_
  obtain ⟨x145, h145, hf⟩ := mm_bd_e hf
  refine xr_getR 148 C cf_X10_29 rfl h145 dX10_memory_145 rfl ?_
  refine xr_iload_n 149 1 C dX10_memory_148 rfl rfl rfl ?_
  obtain ⟨x149, h149, hf⟩ := mm_bd_e hf
  refine xr_aldI 150 C h149 dX10_memory_149 rfl ?_
  obtain ⟨u150, g150, hf⟩ := mm_bd_e hf
  obtain ⟨x150, h150, hf⟩ := mm_bd_e hf
  refine xr_callV 153 C [mm_i x149] cm_X10_184 (fun l G cy => c_X10_isDue l G cy h150) g150 rfl rfl ⟨⟨Nat.le_of_ble_eq_true rfl, Nat.le_of_ble_eq_true rfl⟩, (Nat.le_of_ble_eq_true rfl), (Nat.le_of_ble_eq_true rfl)⟩ (Nat.le_of_ble_eq_true rfl) dX10_memory_150 rfl ?_
  refine xr_if_eq 160 156 C dX10_memory_153 (by decide) rfl (fun hc => ?_) (fun hc => ?_)
  · replace hf := (if_pos hc).symm.trans hf
    refine xr_sub [] (lv2 := []) rfl ?_
    exact w_X10_memory_160 C hf ko
  · replace hf := (if_neg hc).symm.trans hf
    refine xr_sub [] (lv2 := []) rfl ?_
    exact w_X10_memory_156 C hf ko
noncomputable def f_X10_memory_177 (M : mm_M) (s0 : Int32) : Option (Int32 × mm_M) :=
  some (s0, M)
set_option maxRecDepth 20000 in
theorem w_X10_memory_177 {g : mm_c} (C : mm_ok g cX10_memory "LessonCardsModel" (some .int) "memory" 6 3 70 0 0) {M : mm_M} {s0 : Int32} {res : Int32 × mm_M} (hf : f_X10_memory_177 M s0 = some res) (ko : (fun z => mm_q g 0 0 (some (mm_i z.1)) z.2) res) : mm_X g 0 0 M 177 [] [mm_i s0] := by
  unfold f_X10_memory_177 at hf
  obtain rfl := Option.some.inj hf
  exact xr_iret C ko ⟨(Nat.le_of_ble_eq_true rfl), (Nat.le_of_ble_eq_true rfl)⟩ dX10_memory_177
noncomputable def f_X10_memory_172 (M : mm_M) : Option (Int32 × mm_M) :=
  f_X10_memory_177 M 1
set_option maxRecDepth 20000 in
theorem w_X10_memory_172 {g : mm_c} (C : mm_ok g cX10_memory "LessonCardsModel" (some .int) "memory" 6 3 70 0 0) {M : mm_M} {res : Int32 × mm_M} (hf : f_X10_memory_172 M = some res) (ko : (fun z => mm_q g 0 0 (some (mm_i z.1)) z.2) res) : mm_X g 0 0 M 172 [] [] := by
  unfold f_X10_memory_172 at hf
  refine xr_iconst 173 C (v := 1) dX10_memory_172 (by decide) rfl ?_
  refine xr_goto 177 C dX10_memory_173 (by decide) ?_
  exact w_X10_memory_177 C hf ko
noncomputable def f_X10_memory_176 (M : mm_M) : Option (Int32 × mm_M) :=
  f_X10_memory_177 M 0
set_option maxRecDepth 20000 in
theorem w_X10_memory_176 {g : mm_c} (C : mm_ok g cX10_memory "LessonCardsModel" (some .int) "memory" 6 3 70 0 0) {M : mm_M} {res : Int32 × mm_M} (hf : f_X10_memory_176 M = some res) (ko : (fun z => mm_q g 0 0 (some (mm_i z.1)) z.2) res) : mm_X g 0 0 M 176 [] [] := by
  unfold f_X10_memory_176 at hf
  refine xr_iconst 177 C (v := 0) dX10_memory_176 (by decide) rfl ?_
  exact w_X10_memory_177 C hf ko
noncomputable def f_X10_memory_162 (M : mm_M) (v0 : Option Nat) (v1 : Int32) (v2 : Int32) (v3 : Int32) : Option (Int32 × mm_M) :=
  (mm_rc M v0 11).bind fun u166 =>
  mm_b2 (f_X10_isKnownSide M v0 v1 v2 v3) fun x166 M166 =>
  if x166 = 0 then f_X10_memory_176 M166 else f_X10_memory_172 M166
set_option maxRecDepth 20000 in
theorem w_X10_memory_162 {g : mm_c} (C : mm_ok g cX10_memory "LessonCardsModel" (some .int) "memory" 6 3 70 0 0) {M : mm_M} {v0 : Option Nat} {v1 : Int32} {v2 : Int32} {v3 : Int32} {res : Int32 × mm_M} (hf : f_X10_memory_162 M v0 v1 v2 v3 = some res) (ko : (fun z => mm_q g 0 0 (some (mm_i z.1)) z.2) res) : mm_X g 0 0 M 162 [(0, mm_r v0), (1, mm_i v1), (2, mm_i v2), (3, mm_i v3)] [] := by
  unfold f_X10_memory_162 at hf
  refine xr_aload_n 163 0 C dX10_memory_162 rfl rfl rfl ?_
  refine xr_iload_n 164 1 C dX10_memory_163 rfl rfl rfl ?_
  refine xr_iload_n 165 2 C dX10_memory_164 rfl rfl rfl ?_
  refine xr_iload_n 166 3 C dX10_memory_165 rfl rfl rfl ?_
  obtain ⟨u166, g166, hf⟩ := mm_bd_e hf
  obtain ⟨x166, M166, h166, hf⟩ := mm_b2_e hf
  refine xr_callV 169 C [mm_i v1, mm_i v2, mm_i v3] cm_X10_187 (fun l G cy => c_X10_isKnownSide l G cy h166) g166 rfl rfl ⟨⟨Nat.le_of_ble_eq_true rfl, Nat.le_of_ble_eq_true rfl⟩, (Nat.le_of_ble_eq_true rfl), (Nat.le_of_ble_eq_true rfl)⟩ (Nat.le_of_ble_eq_true rfl) dX10_memory_166 rfl ?_
  refine xr_if_eq 176 172 C dX10_memory_169 (by decide) rfl (fun hc => ?_) (fun hc => ?_)
  · replace hf := (if_pos hc).symm.trans hf
    refine xr_sub [] (lv2 := []) rfl ?_
    exact w_X10_memory_176 C hf ko
  · replace hf := (if_neg hc).symm.trans hf
    refine xr_sub [] (lv2 := []) rfl ?_
    exact w_X10_memory_172 C hf ko
noncomputable def f_X10_memory_190 (M : mm_M) (s0 : Int32) : Option (Int32 × mm_M) :=
  some (s0, M)
set_option maxRecDepth 20000 in
theorem w_X10_memory_190 {g : mm_c} (C : mm_ok g cX10_memory "LessonCardsModel" (some .int) "memory" 6 3 70 0 0) {M : mm_M} {s0 : Int32} {res : Int32 × mm_M} (hf : f_X10_memory_190 M s0 = some res) (ko : (fun z => mm_q g 0 0 (some (mm_i z.1)) z.2) res) : mm_X g 0 0 M 190 [] [mm_i s0] := by
  unfold f_X10_memory_190 at hf
  obtain rfl := Option.some.inj hf
  exact xr_iret C ko ⟨(Nat.le_of_ble_eq_true rfl), (Nat.le_of_ble_eq_true rfl)⟩ dX10_memory_190
noncomputable def f_X10_memory_185 (M : mm_M) : Option (Int32 × mm_M) :=
  f_X10_memory_190 M 1
set_option maxRecDepth 20000 in
theorem w_X10_memory_185 {g : mm_c} (C : mm_ok g cX10_memory "LessonCardsModel" (some .int) "memory" 6 3 70 0 0) {M : mm_M} {res : Int32 × mm_M} (hf : f_X10_memory_185 M = some res) (ko : (fun z => mm_q g 0 0 (some (mm_i z.1)) z.2) res) : mm_X g 0 0 M 185 [] [] := by
  unfold f_X10_memory_185 at hf
  refine xr_iconst 186 C (v := 1) dX10_memory_185 (by decide) rfl ?_
  refine xr_goto 190 C dX10_memory_186 (by decide) ?_
  exact w_X10_memory_190 C hf ko
noncomputable def f_X10_memory_189 (M : mm_M) : Option (Int32 × mm_M) :=
  f_X10_memory_190 M 0
set_option maxRecDepth 20000 in
theorem w_X10_memory_189 {g : mm_c} (C : mm_ok g cX10_memory "LessonCardsModel" (some .int) "memory" 6 3 70 0 0) {M : mm_M} {res : Int32 × mm_M} (hf : f_X10_memory_189 M = some res) (ko : (fun z => mm_q g 0 0 (some (mm_i z.1)) z.2) res) : mm_X g 0 0 M 189 [] [] := by
  unfold f_X10_memory_189 at hf
  refine xr_iconst 190 C (v := 0) dX10_memory_189 (by decide) rfl ?_
  exact w_X10_memory_190 C hf ko
noncomputable def f_X10_memory_178 (M : mm_M) (v0 : Option Nat) : Option (Int32 × mm_M) :=
  (mm_rc M v0 11).bind fun u179 =>
  (f_X10_isLeech M v0).bind fun x179 =>
  if x179 = 0 then f_X10_memory_189 M else f_X10_memory_185 M
set_option maxRecDepth 20000 in
theorem w_X10_memory_178 {g : mm_c} (C : mm_ok g cX10_memory "LessonCardsModel" (some .int) "memory" 6 3 70 0 0) {M : mm_M} {v0 : Option Nat} {res : Int32 × mm_M} (hf : f_X10_memory_178 M v0 = some res) (ko : (fun z => mm_q g 0 0 (some (mm_i z.1)) z.2) res) : mm_X g 0 0 M 178 [(0, mm_r v0)] [] := by
  unfold f_X10_memory_178 at hf
  refine xr_aload_n 179 0 C dX10_memory_178 rfl rfl rfl ?_
  obtain ⟨u179, g179, hf⟩ := mm_bd_e hf
  obtain ⟨x179, h179, hf⟩ := mm_bd_e hf
  refine xr_callV 182 C [] cm_X10_176 (fun l G cy => c_X10_isLeech l G cy h179) g179 rfl rfl ⟨⟨Nat.le_of_ble_eq_true rfl, Nat.le_of_ble_eq_true rfl⟩, (Nat.le_of_ble_eq_true rfl), (Nat.le_of_ble_eq_true rfl)⟩ (Nat.le_of_ble_eq_true rfl) dX10_memory_179 rfl ?_
  refine xr_if_eq 189 185 C dX10_memory_182 (by decide) rfl (fun hc => ?_) (fun hc => ?_)
  · replace hf := (if_pos hc).symm.trans hf
    refine xr_sub [] (lv2 := []) rfl ?_
    exact w_X10_memory_189 C hf ko
  · replace hf := (if_neg hc).symm.trans hf
    refine xr_sub [] (lv2 := []) rfl ?_
    exact w_X10_memory_185 C hf ko
noncomputable def f_X10_memory_206 (M : mm_M) (s0 : Int32) : Option (Int32 × mm_M) :=
  some (s0, M)
set_option maxRecDepth 20000 in
theorem w_X10_memory_206 {g : mm_c} (C : mm_ok g cX10_memory "LessonCardsModel" (some .int) "memory" 6 3 70 0 0) {M : mm_M} {s0 : Int32} {res : Int32 × mm_M} (hf : f_X10_memory_206 M s0 = some res) (ko : (fun z => mm_q g 0 0 (some (mm_i z.1)) z.2) res) : mm_X g 0 0 M 206 [] [mm_i s0] := by
  unfold f_X10_memory_206 at hf
  obtain rfl := Option.some.inj hf
  exact xr_iret C ko ⟨(Nat.le_of_ble_eq_true rfl), (Nat.le_of_ble_eq_true rfl)⟩ dX10_memory_206
noncomputable def f_X10_memory_201 (M : mm_M) : Option (Int32 × mm_M) :=
  f_X10_memory_206 M 1
set_option maxRecDepth 20000 in
theorem w_X10_memory_201 {g : mm_c} (C : mm_ok g cX10_memory "LessonCardsModel" (some .int) "memory" 6 3 70 0 0) {M : mm_M} {res : Int32 × mm_M} (hf : f_X10_memory_201 M = some res) (ko : (fun z => mm_q g 0 0 (some (mm_i z.1)) z.2) res) : mm_X g 0 0 M 201 [] [] := by
  unfold f_X10_memory_201 at hf
  refine xr_iconst 202 C (v := 1) dX10_memory_201 (by decide) rfl ?_
  refine xr_goto 206 C dX10_memory_202 (by decide) ?_
  exact w_X10_memory_206 C hf ko
noncomputable def f_X10_memory_205 (M : mm_M) : Option (Int32 × mm_M) :=
  f_X10_memory_206 M 0
set_option maxRecDepth 20000 in
theorem w_X10_memory_205 {g : mm_c} (C : mm_ok g cX10_memory "LessonCardsModel" (some .int) "memory" 6 3 70 0 0) {M : mm_M} {res : Int32 × mm_M} (hf : f_X10_memory_205 M = some res) (ko : (fun z => mm_q g 0 0 (some (mm_i z.1)) z.2) res) : mm_X g 0 0 M 205 [] [] := by
  unfold f_X10_memory_205 at hf
  refine xr_iconst 206 C (v := 0) dX10_memory_205 (by decide) rfl ?_
  exact w_X10_memory_206 C hf ko
noncomputable def f_X10_memory_191 (M : mm_M) (v0 : Option Nat) (v5 : Int32) : Option (Int32 × mm_M) :=
  (mm_fR M v0 11 12).bind fun x192 =>
  (mm_aI M x192 14 v5).bind fun x197 =>
  if x197 = 0 then f_X10_memory_205 M else f_X10_memory_201 M
set_option maxRecDepth 20000 in
theorem w_X10_memory_191 {g : mm_c} (C : mm_ok g cX10_memory "LessonCardsModel" (some .int) "memory" 6 3 70 0 0) {M : mm_M} {v0 : Option Nat} {v5 : Int32} {res : Int32 × mm_M} (hf : f_X10_memory_191 M v0 v5 = some res) (ko : (fun z => mm_q g 0 0 (some (mm_i z.1)) z.2) res) : mm_X g 0 0 M 191 [(0, mm_r v0), (5, mm_i v5)] [] := by
  unfold f_X10_memory_191 at hf
  refine xr_aload_n 192 0 C dX10_memory_191 rfl rfl rfl ?_
  obtain ⟨x192, h192, hf⟩ := mm_bd_e hf
  refine xr_getR 195 C cf_X10_41 rfl h192 dX10_memory_192 rfl ?_
  refine xr_iload 197 1 C dX10_memory_195 rfl rfl ?_
  obtain ⟨x197, h197, hf⟩ := mm_bd_e hf
  refine xr_aldZ 198 C h197 dX10_memory_197 rfl ?_
  refine xr_if_eq 205 201 C dX10_memory_198 (by decide) rfl (fun hc => ?_) (fun hc => ?_)
  · replace hf := (if_pos hc).symm.trans hf
    refine xr_sub [] (lv2 := []) rfl ?_
    exact w_X10_memory_205 C hf ko
  · replace hf := (if_neg hc).symm.trans hf
    refine xr_sub [] (lv2 := []) rfl ?_
    exact w_X10_memory_201 C hf ko
noncomputable def f_X10_memory_19 (M : mm_M) (v0 : Option Nat) (v1 : Int32) (v2 : Int32) (v3 : Int32) (v4 : Int32) : Option (Int32 × mm_M) :=
  (mm_rc M v0 11).bind fun u35 =>
  (f_X10_take M v0 (((v1 * 480) + (4 * v2)) + v3)).bind fun M35 =>
  if v4 = 0 then f_X10_memory_96 M35 v0 else if v4 = 1 then f_X10_memory_101 M35 v0 else if v4 = 2 then f_X10_memory_106 M35 v0 else if v4 = 3 then f_X10_memory_111 M35 v0 else if v4 = 4 then f_X10_memory_116 M35 v0 else if v4 = 5 then f_X10_memory_121 M35 v0 v1 else if v4 = 6 then f_X10_memory_143 M35 v0 v1 else if v4 = 7 then f_X10_memory_162 M35 v0 v1 v2 v3 else if v4 = 8 then f_X10_memory_178 M35 v0 else if v4 = 9 then f_X10_memory_191 M35 v0 (((v1 * 480) + (4 * v2)) + v3) else f_X10_memory_207 M35
set_option maxRecDepth 20000 in
theorem w_X10_memory_19 {g : mm_c} (C : mm_ok g cX10_memory "LessonCardsModel" (some .int) "memory" 6 3 70 0 0) {M : mm_M} {v0 : Option Nat} {v1 : Int32} {v2 : Int32} {v3 : Int32} {v4 : Int32} {res : Int32 × mm_M} (hf : f_X10_memory_19 M v0 v1 v2 v3 v4 = some res) (ko : (fun z => mm_q g 0 0 (some (mm_i z.1)) z.2) res) : mm_X g 0 0 M 19 [(0, mm_r v0), (1, mm_i v1), (2, mm_i v2), (3, mm_i v3), (4, mm_i v4)] [] := by
  unfold f_X10_memory_19 at hf
  refine xr_iload_n 20 1 C dX10_memory_19 rfl rfl rfl ?_
  refine xr_sipush 23 C (v := 480) dX10_memory_20 (by decide) rfl ?_
  refine xr_imul 24 C dX10_memory_23 rfl ?_
  refine xr_iconst 25 C (v := 4) dX10_memory_24 (by decide) rfl ?_
  refine xr_iload_n 26 2 C dX10_memory_25 rfl rfl rfl ?_
  refine xr_imul 27 C dX10_memory_26 rfl ?_
  refine xr_iadd 28 C dX10_memory_27 rfl ?_
  refine xr_iload_n 29 3 C dX10_memory_28 rfl rfl rfl ?_
  refine xr_iadd 30 C dX10_memory_29 rfl ?_
  refine xr_istore 32 C dX10_memory_30 (by decide) rfl [(5, mm_i (((v1 * 480) + (4 * v2)) + v3)), (0, mm_r v0), (1, mm_i v1), (2, mm_i v2), (3, mm_i v3), (4, mm_i v4)] rfl ?_
  refine xr_aload_n 33 1 C dX10_memory_32 rfl rfl rfl ?_
  refine xr_iload 35 0 C dX10_memory_33 rfl rfl ?_
  obtain ⟨u35, g35, hf⟩ := mm_bd_e hf
  obtain ⟨M35, h35, hf⟩ := mm_bd_e hf
  refine xr_callV 38 C [mm_i (((v1 * 480) + (4 * v2)) + v3)] cm_X10_180 (fun l G cy => c_X10_take l G cy h35) g35 rfl rfl ⟨⟨Nat.le_of_ble_eq_true rfl, Nat.le_of_ble_eq_true rfl⟩, (Nat.le_of_ble_eq_true rfl), (Nat.le_of_ble_eq_true rfl)⟩ (Nat.le_of_ble_eq_true rfl) dX10_memory_35 rfl ?_
  refine xr_iload 40 5 C dX10_memory_38 rfl rfl ?_
  rcases mm_if_e hf with ⟨hc0, hf⟩ | ⟨hc0, hf⟩
  · refine xr_tin 96 C dX10_memory_40 (off := 56) hc0 (by decide) (by decide) (by decide) (by decide) ?_
    refine xr_sub [1] (lv2 := [(0, mm_r v0)]) rfl ?_
    exact w_X10_memory_96 C hf ko
  ·
    rcases mm_if_e hf with ⟨hc1, hf⟩ | ⟨hc1, hf⟩
    · refine xr_tin 101 C dX10_memory_40 (off := 61) hc1 (by decide) (by decide) (by decide) (by decide) ?_
      refine xr_sub [1] (lv2 := [(0, mm_r v0)]) rfl ?_
      exact w_X10_memory_101 C hf ko
    ·
      rcases mm_if_e hf with ⟨hc2, hf⟩ | ⟨hc2, hf⟩
      · refine xr_tin 106 C dX10_memory_40 (off := 66) hc2 (by decide) (by decide) (by decide) (by decide) ?_
        refine xr_sub [1] (lv2 := [(0, mm_r v0)]) rfl ?_
        exact w_X10_memory_106 C hf ko
      ·
        rcases mm_if_e hf with ⟨hc3, hf⟩ | ⟨hc3, hf⟩
        · refine xr_tin 111 C dX10_memory_40 (off := 71) hc3 (by decide) (by decide) (by decide) (by decide) ?_
          refine xr_sub [1] (lv2 := [(0, mm_r v0)]) rfl ?_
          exact w_X10_memory_111 C hf ko
        ·
          rcases mm_if_e hf with ⟨hc4, hf⟩ | ⟨hc4, hf⟩
          · refine xr_tin 116 C dX10_memory_40 (off := 76) hc4 (by decide) (by decide) (by decide) (by decide) ?_
            refine xr_sub [1] (lv2 := [(0, mm_r v0)]) rfl ?_
            exact w_X10_memory_116 C hf ko
          ·
            rcases mm_if_e hf with ⟨hc5, hf⟩ | ⟨hc5, hf⟩
            · refine xr_tin 121 C dX10_memory_40 (off := 81) hc5 (by decide) (by decide) (by decide) (by decide) ?_
              refine xr_sub [1, 2] (lv2 := [(0, mm_r v0), (1, mm_i v1)]) rfl ?_
              exact w_X10_memory_121 C hf ko
            ·
              rcases mm_if_e hf with ⟨hc6, hf⟩ | ⟨hc6, hf⟩
              · refine xr_tin 143 C dX10_memory_40 (off := 103) hc6 (by decide) (by decide) (by decide) (by decide) ?_
                refine xr_sub [1, 2] (lv2 := [(0, mm_r v0), (1, mm_i v1)]) rfl ?_
                exact w_X10_memory_143 C hf ko
              ·
                rcases mm_if_e hf with ⟨hc7, hf⟩ | ⟨hc7, hf⟩
                · refine xr_tin 162 C dX10_memory_40 (off := 122) hc7 (by decide) (by decide) (by decide) (by decide) ?_
                  refine xr_sub [1, 2, 3, 4] (lv2 := [(0, mm_r v0), (1, mm_i v1), (2, mm_i v2), (3, mm_i v3)]) rfl ?_
                  exact w_X10_memory_162 C hf ko
                ·
                  rcases mm_if_e hf with ⟨hc8, hf⟩ | ⟨hc8, hf⟩
                  · refine xr_tin 178 C dX10_memory_40 (off := 138) hc8 (by decide) (by decide) (by decide) (by decide) ?_
                    refine xr_sub [1] (lv2 := [(0, mm_r v0)]) rfl ?_
                    exact w_X10_memory_178 C hf ko
                  ·
                    rcases mm_if_e hf with ⟨hc9, hf⟩ | ⟨hc9, hf⟩
                    · refine xr_tin 191 C dX10_memory_40 (off := 151) hc9 (by decide) (by decide) (by decide) (by decide) ?_
                      refine xr_sub [1, 0] (lv2 := [(0, mm_r v0), (5, mm_i (((v1 * 480) + (4 * v2)) + v3))]) rfl ?_
                      exact w_X10_memory_191 C hf ko
                    ·
                      refine xr_tout 207 C dX10_memory_40 (mm_swd _ 9 (by decide) (fun k hk => by rcases (show k = 0 ∨ k = 1 ∨ k = 2 ∨ k = 3 ∨ k = 4 ∨ k = 5 ∨ k = 6 ∨ k = 7 ∨ k = 8 ∨ k = 9 by omega) with rfl | rfl | rfl | rfl | rfl | rfl | rfl | rfl | rfl | rfl <;> assumption)) (by decide) ?_
                      refine xr_sub [] (lv2 := []) rfl ?_
                      exact w_X10_memory_207 C hf ko
noncomputable def f_X10_memory_7 (M : mm_M) (v0 : Option Nat) (v1 : Int32) (v2 : Int32) (v3 : Int32) (v4 : Int32) : Option (Int32 × mm_M) :=
  (mm_rc M v0 11).bind fun u10 =>
  (f_X10_isSide M v0 v2 v3).bind fun x10 =>
  if x10 = 0 then f_X10_memory_16 M else f_X10_memory_19 M v0 v1 v2 v3 v4
set_option maxRecDepth 20000 in
theorem w_X10_memory_7 {g : mm_c} (C : mm_ok g cX10_memory "LessonCardsModel" (some .int) "memory" 6 3 70 0 0) {M : mm_M} {v0 : Option Nat} {v1 : Int32} {v2 : Int32} {v3 : Int32} {v4 : Int32} {res : Int32 × mm_M} (hf : f_X10_memory_7 M v0 v1 v2 v3 v4 = some res) (ko : (fun z => mm_q g 0 0 (some (mm_i z.1)) z.2) res) : mm_X g 0 0 M 7 [(0, mm_r v0), (1, mm_i v1), (2, mm_i v2), (3, mm_i v3), (4, mm_i v4)] [] := by
  unfold f_X10_memory_7 at hf
  refine xr_aload_n 8 0 C dX10_memory_7 rfl rfl rfl ?_
  refine xr_iload_n 9 2 C dX10_memory_8 rfl rfl rfl ?_
  refine xr_iload_n 10 3 C dX10_memory_9 rfl rfl rfl ?_
  obtain ⟨u10, g10, hf⟩ := mm_bd_e hf
  obtain ⟨x10, h10, hf⟩ := mm_bd_e hf
  refine xr_callV 13 C [mm_i v2, mm_i v3] cm_X10_220 (fun l G cy => c_X10_isSide l G cy h10) g10 rfl rfl ⟨⟨Nat.le_of_ble_eq_true rfl, Nat.le_of_ble_eq_true rfl⟩, (Nat.le_of_ble_eq_true rfl), (Nat.le_of_ble_eq_true rfl)⟩ (Nat.le_of_ble_eq_true rfl) dX10_memory_10 rfl ?_
  refine xr_if_ne 19 16 C dX10_memory_13 (by decide) rfl (fun hc => ?_) (fun hc => ?_)
  · replace hf := (if_neg hc).symm.trans hf
    exact w_X10_memory_19 C hf ko
  · replace hf := (if_pos hc).symm.trans hf
    refine xr_sub [] (lv2 := []) rfl ?_
    exact w_X10_memory_16 C hf ko
noncomputable def f_X10_memory_0 (M : mm_M) (v0 : Option Nat) (v1 : Int32) (v2 : Int32) (v3 : Int32) (v4 : Int32) : Option (Int32 × mm_M) :=
  (f_X10_isPupil M v1).bind fun x1 =>
  if x1 = 0 then f_X10_memory_16 M else f_X10_memory_7 M v0 v1 v2 v3 v4
set_option maxRecDepth 20000 in
theorem w_X10_memory_0 {g : mm_c} (C : mm_ok g cX10_memory "LessonCardsModel" (some .int) "memory" 6 3 70 0 0) {M : mm_M} {v0 : Option Nat} {v1 : Int32} {v2 : Int32} {v3 : Int32} {v4 : Int32} {res : Int32 × mm_M} (hf : f_X10_memory_0 M v0 v1 v2 v3 v4 = some res) (ko : (fun z => mm_q g 0 0 (some (mm_i z.1)) z.2) res) : mm_X g 0 0 M 0 [(0, mm_r v0), (1, mm_i v1), (2, mm_i v2), (3, mm_i v3), (4, mm_i v4)] [] := by
  unfold f_X10_memory_0 at hf
  refine xr_iload_n 1 1 C dX10_memory_0 rfl rfl rfl ?_
  obtain ⟨x1, h1, hf⟩ := mm_bd_e hf
  refine xr_callS 4 C [mm_i v1] cm_X10_190 (fun l G cy => c_X10_isPupil l G cy h1) rfl rfl ⟨⟨Nat.le_of_ble_eq_true rfl, Nat.le_of_ble_eq_true rfl⟩, (Nat.le_of_ble_eq_true rfl), (Nat.le_of_ble_eq_true rfl)⟩ (Nat.le_of_ble_eq_true rfl) dX10_memory_1 rfl ?_
  refine xr_if_eq 16 7 C dX10_memory_4 (by decide) rfl (fun hc => ?_) (fun hc => ?_)
  · replace hf := (if_pos hc).symm.trans hf
    refine xr_sub [] (lv2 := []) rfl ?_
    exact w_X10_memory_16 C hf ko
  · replace hf := (if_neg hc).symm.trans hf
    exact w_X10_memory_7 C hf ko
noncomputable def f_X10_memory (M : mm_M) (v0 : Option Nat) (v1 : Int32) (v2 : Int32) (v3 : Int32) (v4 : Int32) : Option (Int32 × mm_M) := f_X10_memory_0 M v0 v1 v2 v3 v4
theorem c_X10_memory (l : Launch) (G : va_G) (cy : Nat → ClassId) {M : mm_M} {v0 : Option Nat} {v1 : Int32} {v2 : Int32} {v3 : Int32} {v4 : Int32} {r : Int32} {M1 : mm_M} (hf : f_X10_memory M v0 v1 v2 v3 v4 = some (r, M1)) : mm_Met l yX10_memory cX10_memory 6 (some .int) 3 70 0 0 G cy [mm_r v0, mm_i v1, mm_i v2, mm_i v3, mm_i v4] M (some (mm_i r)) M1 :=
  mm_enter (by decide) (Nat.le_of_ble_eq_true rfl) (fun p e R s m args below meth c Q C hq => xr_sub [0, 1, 2, 3, 4] (lv2 := [(0, mm_r v0), (1, mm_i v1), (2, mm_i v2), (3, mm_i v3), (4, mm_i v4)]) rfl (w_X10_memory_0 C hf hq))
def h_X10_firstDue_2 (g : mm_c) (M : mm_M) (v0 : Option Nat) (v2 : Int32) : Int32 → Prop := fun x => mm_X g 0 0 M 2 [(0, mm_r v0), (2, mm_i v2), (3, mm_i x)] []
noncomputable def f_X10_firstDue_15 (M : mm_M) (v3 : Int32) : Option (Int32) :=
  some v3
set_option maxRecDepth 20000 in
theorem w_X10_firstDue_15 {g : mm_c} (C : mm_ok g cX10_firstDue "LessonCardsModel" (some .int) "firstDue" 4 2 47 0 0) {M : mm_M} {v3 : Int32} {res : Int32} (hf : f_X10_firstDue_15 M v3 = some res) (ko : (fun z => mm_q g 0 0 (some (mm_i z)) M) res) : mm_X g 0 0 M 15 [(3, mm_i v3)] [] := by
  unfold f_X10_firstDue_15 at hf
  refine xr_iload_n 16 0 C dX10_firstDue_15 rfl rfl rfl ?_
  obtain rfl := Option.some.inj hf
  exact xr_iret C ko ⟨(Nat.le_of_ble_eq_true rfl), (Nat.le_of_ble_eq_true rfl)⟩ dX10_firstDue_16
noncomputable def f_X10_firstDue_17 (M : mm_M) (v0 : Option Nat) (v2 : Int32) (v3 : Int32) : Option (Int32 ⊕ (Int32)) :=
  some (.inl (v3 + 1))
set_option maxRecDepth 20000 in
theorem w_X10_firstDue_17 {g : mm_c} (C : mm_ok g cX10_firstDue "LessonCardsModel" (some .int) "firstDue" 4 2 47 0 0) {M : mm_M} {v0 : Option Nat} {v2 : Int32} {v3 : Int32} {res : Int32 ⊕ (Int32)} (hf : f_X10_firstDue_17 M v0 v2 v3 = some res) (ko : (mm_o (h_X10_firstDue_2 g M v0 v2) (fun z => mm_q g 0 0 (some (mm_i z)) M)) res) : mm_X g 0 0 M 17 [(0, mm_r v0), (2, mm_i v2), (3, mm_i v3)] [] := by
  unfold f_X10_firstDue_17 at hf
  refine xr_iinc 20 2 C dX10_firstDue_17 rfl (by decide) (v := 1) (by decide) rfl [(3, mm_i (v3 + 1)), (0, mm_r v0), (2, mm_i v2)] rfl ?_
  refine xr_goto 2 C dX10_firstDue_20 (by decide) ?_
  refine xr_sub [1, 2, 0] (lv2 := [(0, mm_r v0), (2, mm_i v2), (3, mm_i (v3 + 1))]) rfl ?_
  obtain rfl := Option.some.inj hf
  exact ko
noncomputable def f_X10_firstDue_7 (M : mm_M) (v0 : Option Nat) (v2 : Int32) (v3 : Int32) : Option (Int32 ⊕ (Int32)) :=
  (mm_rc M v0 11).bind fun u9 =>
  (f_X10_isDue M v0 v3).bind fun x9 =>
  if x9 = 0 then f_X10_firstDue_17 M v0 v2 v3 else mm_mp (f_X10_firstDue_15 M v3)
set_option maxRecDepth 20000 in
theorem w_X10_firstDue_7 {g : mm_c} (C : mm_ok g cX10_firstDue "LessonCardsModel" (some .int) "firstDue" 4 2 47 0 0) {M : mm_M} {v0 : Option Nat} {v2 : Int32} {v3 : Int32} {res : Int32 ⊕ (Int32)} (hf : f_X10_firstDue_7 M v0 v2 v3 = some res) (ko : (mm_o (h_X10_firstDue_2 g M v0 v2) (fun z => mm_q g 0 0 (some (mm_i z)) M)) res) : mm_X g 0 0 M 7 [(0, mm_r v0), (2, mm_i v2), (3, mm_i v3)] [] := by
  unfold f_X10_firstDue_7 at hf
  refine xr_aload_n 8 0 C dX10_firstDue_7 rfl rfl rfl ?_
  refine xr_iload_n 9 2 C dX10_firstDue_8 rfl rfl rfl ?_
  obtain ⟨u9, g9, hf⟩ := mm_bd_e hf
  obtain ⟨x9, h9, hf⟩ := mm_bd_e hf
  refine xr_callV 12 C [mm_i v3] cm_X10_184 (fun l G cy => c_X10_isDue l G cy h9) g9 rfl rfl ⟨⟨Nat.le_of_ble_eq_true rfl, Nat.le_of_ble_eq_true rfl⟩, (Nat.le_of_ble_eq_true rfl), (Nat.le_of_ble_eq_true rfl)⟩ (Nat.le_of_ble_eq_true rfl) dX10_firstDue_9 rfl ?_
  refine xr_if_eq 17 15 C dX10_firstDue_12 (by decide) rfl (fun hc => ?_) (fun hc => ?_)
  · replace hf := (if_pos hc).symm.trans hf
    exact w_X10_firstDue_17 C hf ko
  · replace hf := (if_neg hc).symm.trans hf
    refine xr_sub [2] (lv2 := [(3, mm_i v3)]) rfl ?_
    obtain ⟨z, hf2, rfl⟩ := mm_mp_e hf
    clear hf
    have hf := hf2
    clear hf2
    exact w_X10_firstDue_15 C hf ko
noncomputable def f_X10_firstDue_23 (M : mm_M) : Option (Int32) :=
  some (-1)
set_option maxRecDepth 20000 in
theorem w_X10_firstDue_23 {g : mm_c} (C : mm_ok g cX10_firstDue "LessonCardsModel" (some .int) "firstDue" 4 2 47 0 0) {M : mm_M} {res : Int32} (hf : f_X10_firstDue_23 M = some res) (ko : (fun z => mm_q g 0 0 (some (mm_i z)) M) res) : mm_X g 0 0 M 23 [] [] := by
  unfold f_X10_firstDue_23 at hf
  refine xr_iconst 24 C (v := (-1)) dX10_firstDue_23 (by decide) rfl ?_
  obtain rfl := Option.some.inj hf
  exact xr_iret C ko ⟨(Nat.le_of_ble_eq_true rfl), (Nat.le_of_ble_eq_true rfl)⟩ dX10_firstDue_24
noncomputable def f_X10_firstDue_2 (M : mm_M) (v0 : Option Nat) (v2 : Int32) (v3 : Int32) : Option (Int32 ⊕ (Int32)) :=
  if v2 < v3 then mm_mp (f_X10_firstDue_23 M) else f_X10_firstDue_7 M v0 v2 v3
set_option maxRecDepth 20000 in
theorem w_X10_firstDue_2 {g : mm_c} (C : mm_ok g cX10_firstDue "LessonCardsModel" (some .int) "firstDue" 4 2 47 0 0) {M : mm_M} {v0 : Option Nat} {v2 : Int32} {v3 : Int32} {res : Int32 ⊕ (Int32)} (hf : f_X10_firstDue_2 M v0 v2 v3 = some res) (ko : (mm_o (h_X10_firstDue_2 g M v0 v2) (fun z => mm_q g 0 0 (some (mm_i z)) M)) res) : mm_X g 0 0 M 2 [(0, mm_r v0), (2, mm_i v2), (3, mm_i v3)] [] := by
  unfold f_X10_firstDue_2 at hf
  refine xr_iload_n 3 2 C dX10_firstDue_2 rfl rfl rfl ?_
  refine xr_iload_n 4 1 C dX10_firstDue_3 rfl rfl rfl ?_
  refine xr_icmp_gt 23 7 C dX10_firstDue_4 (by decide) rfl (fun hc => ?_) (fun hc => ?_)
  · replace hf := (if_pos hc).symm.trans hf
    refine xr_sub [] (lv2 := []) rfl ?_
    obtain ⟨z, hf2, rfl⟩ := mm_mp_e hf
    clear hf
    have hf := hf2
    clear hf2
    exact w_X10_firstDue_23 C hf ko
  · replace hf := (if_neg hc).symm.trans hf
    exact w_X10_firstDue_7 C hf ko
noncomputable def f_X10_firstDue_2w (M : mm_M) (v0 : Option Nat) (v2 : Int32) (v3 : Int32) : Option (Int32) := mm_w (fun x => f_X10_firstDue_2 M v0 v2 x) v3
theorem l_X10_firstDue_2 {g : mm_c} (C : mm_ok g cX10_firstDue "LessonCardsModel" (some .int) "firstDue" 4 2 47 0 0) {M : mm_M} {v0 : Option Nat} {v2 : Int32} {v3 : Int32} {res : Int32} (hf : f_X10_firstDue_2w M v0 v2 v3 = some res) (ko : (fun z => mm_q g 0 0 (some (mm_i z)) M) res) : mm_X g 0 0 M 2 [(0, mm_r v0), (2, mm_i v2), (3, mm_i v3)] [] :=
  mm_w_W (body := fun x => f_X10_firstDue_2 M v0 v2 x) (Wh := h_X10_firstDue_2 g M v0 v2) (ok := (fun z => mm_q g 0 0 (some (mm_i z)) M)) (x := v3) (fun x r hb ho => w_X10_firstDue_2 C hb ho) hf ko
noncomputable def f_X10_firstDue_0 (M : mm_M) (v0 : Option Nat) (v1 : Int32) (v2 : Int32) : Option (Int32) :=
  f_X10_firstDue_2w M v0 v2 v1
set_option maxRecDepth 20000 in
theorem w_X10_firstDue_0 {g : mm_c} (C : mm_ok g cX10_firstDue "LessonCardsModel" (some .int) "firstDue" 4 2 47 0 0) {M : mm_M} {v0 : Option Nat} {v1 : Int32} {v2 : Int32} {res : Int32} (hf : f_X10_firstDue_0 M v0 v1 v2 = some res) (ko : (fun z => mm_q g 0 0 (some (mm_i z)) M) res) : mm_X g 0 0 M 0 [(0, mm_r v0), (1, mm_i v1), (2, mm_i v2)] [] := by
  unfold f_X10_firstDue_0 at hf
  refine xr_iload_n 1 1 C dX10_firstDue_0 rfl rfl rfl ?_
  refine xr_istore_n 2 C dX10_firstDue_1 rfl (by decide) rfl [(3, mm_i v1), (0, mm_r v0), (1, mm_i v1), (2, mm_i v2)] rfl ?_
  refine xr_sub [1, 3, 0] (lv2 := [(0, mm_r v0), (2, mm_i v2), (3, mm_i v1)]) rfl ?_
  exact l_X10_firstDue_2 C hf ko
noncomputable def f_X10_firstDue (M : mm_M) (v0 : Option Nat) (v1 : Int32) (v2 : Int32) : Option (Int32) := f_X10_firstDue_0 M v0 v1 v2
theorem c_X10_firstDue (l : Launch) (G : va_G) (cy : Nat → ClassId) {M : mm_M} {v0 : Option Nat} {v1 : Int32} {v2 : Int32} {r : Int32} (hf : f_X10_firstDue M v0 v1 v2 = some r) : mm_Met l yX10_firstDue cX10_firstDue 4 (some .int) 2 47 0 0 G cy [mm_r v0, mm_i v1, mm_i v2] M (some (mm_i r)) M :=
  mm_enter (by decide) (Nat.le_of_ble_eq_true rfl) (fun p e R s m args below meth c Q C hq => xr_sub [0, 1, 2] (lv2 := [(0, mm_r v0), (1, mm_i v1), (2, mm_i v2)]) rfl (w_X10_firstDue_0 C hf hq))
noncomputable def f_X10_when_16 (M : mm_M) : Option (Int32 × mm_M) :=
  some ((-1), M)
set_option maxRecDepth 20000 in
theorem w_X10_when_16 {g : mm_c} (C : mm_ok g cX10_when "LessonCardsModel" (some .int) "when" 4 3 70 0 0) {M : mm_M} {res : Int32 × mm_M} (hf : f_X10_when_16 M = some res) (ko : (fun z => mm_q g 0 0 (some (mm_i z.1)) z.2) res) : mm_X g 0 0 M 16 [] [] := by
  unfold f_X10_when_16 at hf
  refine xr_iconst 17 C (v := (-1)) dX10_when_16 (by decide) rfl ?_
  obtain rfl := Option.some.inj hf
  exact xr_iret C ko ⟨(Nat.le_of_ble_eq_true rfl), (Nat.le_of_ble_eq_true rfl)⟩ dX10_when_17
noncomputable def f_X10_when_71 (M : mm_M) (s0 : Int32) : Option (Int32 × mm_M) :=
  some (s0, M)
set_option maxRecDepth 20000 in
theorem w_X10_when_71 {g : mm_c} (C : mm_ok g cX10_when "LessonCardsModel" (some .int) "when" 4 3 70 0 0) {M : mm_M} {s0 : Int32} {res : Int32 × mm_M} (hf : f_X10_when_71 M s0 = some res) (ko : (fun z => mm_q g 0 0 (some (mm_i z.1)) z.2) res) : mm_X g 0 0 M 71 [] [mm_i s0] := by
  unfold f_X10_when_71 at hf
  obtain rfl := Option.some.inj hf
  exact xr_iret C ko ⟨(Nat.le_of_ble_eq_true rfl), (Nat.le_of_ble_eq_true rfl)⟩ dX10_when_71
noncomputable def f_X10_when_47 (M : mm_M) : Option (Int32 × mm_M) :=
  f_X10_when_71 M (-1)
set_option maxRecDepth 20000 in
theorem w_X10_when_47 {g : mm_c} (C : mm_ok g cX10_when "LessonCardsModel" (some .int) "when" 4 3 70 0 0) {M : mm_M} {res : Int32 × mm_M} (hf : f_X10_when_47 M = some res) (ko : (fun z => mm_q g 0 0 (some (mm_i z.1)) z.2) res) : mm_X g 0 0 M 47 [] [] := by
  unfold f_X10_when_47 at hf
  refine xr_iconst 48 C (v := (-1)) dX10_when_47 (by decide) rfl ?_
  refine xr_goto 71 C dX10_when_48 (by decide) ?_
  exact w_X10_when_71 C hf ko
noncomputable def f_X10_when_51 (M : mm_M) (v0 : Option Nat) (v1 : Int32) : Option (Int32 × mm_M) :=
  (mm_fR M v0 11 8).bind fun x53 =>
  (mm_aI M x53 12 v1).bind fun x57 =>
  (mm_fR M v0 11 8).bind fun x59 =>
  (mm_aI M x59 12 v1).bind fun x63 =>
  (mm_rc M v0 11).bind fun u68 =>
  (f_X10_firstDue M v0 x57 (x63 + 10000)).bind fun x68 =>
  f_X10_when_71 M x68
set_option maxRecDepth 20000 in
theorem w_X10_when_51 {g : mm_c} (C : mm_ok g cX10_when "LessonCardsModel" (some .int) "when" 4 3 70 0 0) {M : mm_M} {v0 : Option Nat} {v1 : Int32} {res : Int32 × mm_M} (hf : f_X10_when_51 M v0 v1 = some res) (ko : (fun z => mm_q g 0 0 (some (mm_i z.1)) z.2) res) : mm_X g 0 0 M 51 [(0, mm_r v0), (1, mm_i v1)] [] := by
  unfold f_X10_when_51 at hf
  refine xr_aload_n 52 0 C dX10_when_51 rfl rfl rfl ?_
  refine xr_aload_n 53 0 C dX10_when_52 rfl rfl rfl ?_
  obtain ⟨x53, h53, hf⟩ := mm_bd_e hf
  refine xr_getR 56 C cf_X10_29 rfl h53 dX10_when_53 rfl ?_
  refine xr_iload_n 57 1 C dX10_when_56 rfl rfl rfl ?_
  obtain ⟨x57, h57, hf⟩ := mm_bd_e hf
  refine xr_aldI 58 C h57 dX10_when_57 rfl ?_
  refine xr_aload_n 59 0 C dX10_when_58 rfl rfl rfl ?_
  obtain ⟨x59, h59, hf⟩ := mm_bd_e hf
  refine xr_getR 62 C cf_X10_29 rfl h59 dX10_when_59 rfl ?_
  refine xr_iload_n 63 1 C dX10_when_62 rfl rfl rfl ?_
  obtain ⟨x63, h63, hf⟩ := mm_bd_e hf
  refine xr_aldI 64 C h63 dX10_when_63 rfl ?_
  refine xr_sipush 67 C (v := 10000) dX10_when_64 (by decide) rfl ?_
  refine xr_iadd 68 C dX10_when_67 rfl ?_
  obtain ⟨u68, g68, hf⟩ := mm_bd_e hf
  obtain ⟨x68, h68, hf⟩ := mm_bd_e hf
  refine xr_callV 71 C [mm_i x57, mm_i (x63 + 10000)] cm_X10_223 (fun l G cy => c_X10_firstDue l G cy h68) g68 rfl rfl ⟨⟨Nat.le_of_ble_eq_true rfl, Nat.le_of_ble_eq_true rfl⟩, (Nat.le_of_ble_eq_true rfl), (Nat.le_of_ble_eq_true rfl)⟩ (Nat.le_of_ble_eq_true rfl) dX10_when_68 rfl ?_
  refine xr_sub [] (lv2 := []) rfl ?_
  exact w_X10_when_71 C hf ko
noncomputable def f_X10_when_40 (M : mm_M) (v0 : Option Nat) (v1 : Int32) : Option (Int32 × mm_M) :=
  (mm_rc M v0 11).bind fun u41 =>
  (f_X10_isLeech M v0).bind fun x41 =>
  if x41 = 0 then f_X10_when_51 M v0 v1 else f_X10_when_47 M
set_option maxRecDepth 20000 in
theorem w_X10_when_40 {g : mm_c} (C : mm_ok g cX10_when "LessonCardsModel" (some .int) "when" 4 3 70 0 0) {M : mm_M} {v0 : Option Nat} {v1 : Int32} {res : Int32 × mm_M} (hf : f_X10_when_40 M v0 v1 = some res) (ko : (fun z => mm_q g 0 0 (some (mm_i z.1)) z.2) res) : mm_X g 0 0 M 40 [(0, mm_r v0), (1, mm_i v1)] [] := by
  unfold f_X10_when_40 at hf
  refine xr_aload_n 41 0 C dX10_when_40 rfl rfl rfl ?_
  obtain ⟨u41, g41, hf⟩ := mm_bd_e hf
  obtain ⟨x41, h41, hf⟩ := mm_bd_e hf
  refine xr_callV 44 C [] cm_X10_176 (fun l G cy => c_X10_isLeech l G cy h41) g41 rfl rfl ⟨⟨Nat.le_of_ble_eq_true rfl, Nat.le_of_ble_eq_true rfl⟩, (Nat.le_of_ble_eq_true rfl), (Nat.le_of_ble_eq_true rfl)⟩ (Nat.le_of_ble_eq_true rfl) dX10_when_41 rfl ?_
  refine xr_if_eq 51 47 C dX10_when_44 (by decide) rfl (fun hc => ?_) (fun hc => ?_)
  · replace hf := (if_pos hc).symm.trans hf
    exact w_X10_when_51 C hf ko
  · replace hf := (if_neg hc).symm.trans hf
    refine xr_sub [] (lv2 := []) rfl ?_
    exact w_X10_when_47 C hf ko
noncomputable def f_X10_when_18 (M : mm_M) (v0 : Option Nat) (v1 : Int32) (v2 : Int32) (v3 : Int32) : Option (Int32 × mm_M) :=
  (mm_rc M v0 11).bind fun u30 =>
  (f_X10_take M v0 (((v1 * 480) + (4 * v2)) + v3)).bind fun M30 =>
  (mm_fI M30 v0 11 29).bind fun x34 =>
  if x34 = 0 then f_X10_when_47 M30 else f_X10_when_40 M30 v0 v1
set_option maxRecDepth 20000 in
theorem w_X10_when_18 {g : mm_c} (C : mm_ok g cX10_when "LessonCardsModel" (some .int) "when" 4 3 70 0 0) {M : mm_M} {v0 : Option Nat} {v1 : Int32} {v2 : Int32} {v3 : Int32} {res : Int32 × mm_M} (hf : f_X10_when_18 M v0 v1 v2 v3 = some res) (ko : (fun z => mm_q g 0 0 (some (mm_i z.1)) z.2) res) : mm_X g 0 0 M 18 [(0, mm_r v0), (1, mm_i v1), (2, mm_i v2), (3, mm_i v3)] [] := by
  unfold f_X10_when_18 at hf
  refine xr_aload_n 19 0 C dX10_when_18 rfl rfl rfl ?_
  refine xr_iload_n 20 1 C dX10_when_19 rfl rfl rfl ?_
  refine xr_sipush 23 C (v := 480) dX10_when_20 (by decide) rfl ?_
  refine xr_imul 24 C dX10_when_23 rfl ?_
  refine xr_iconst 25 C (v := 4) dX10_when_24 (by decide) rfl ?_
  refine xr_iload_n 26 2 C dX10_when_25 rfl rfl rfl ?_
  refine xr_imul 27 C dX10_when_26 rfl ?_
  refine xr_iadd 28 C dX10_when_27 rfl ?_
  refine xr_iload_n 29 3 C dX10_when_28 rfl rfl rfl ?_
  refine xr_iadd 30 C dX10_when_29 rfl ?_
  obtain ⟨u30, g30, hf⟩ := mm_bd_e hf
  obtain ⟨M30, h30, hf⟩ := mm_bd_e hf
  refine xr_callV 33 C [mm_i (((v1 * 480) + (4 * v2)) + v3)] cm_X10_180 (fun l G cy => c_X10_take l G cy h30) g30 rfl rfl ⟨⟨Nat.le_of_ble_eq_true rfl, Nat.le_of_ble_eq_true rfl⟩, (Nat.le_of_ble_eq_true rfl), (Nat.le_of_ble_eq_true rfl)⟩ (Nat.le_of_ble_eq_true rfl) dX10_when_30 rfl ?_
  refine xr_aload_n 34 0 C dX10_when_33 rfl rfl rfl ?_
  obtain ⟨x34, h34, hf⟩ := mm_bd_e hf
  refine xr_getI 37 C cf_X10_135 rfl h34 dX10_when_34 rfl ?_
  refine xr_if_eq 47 40 C dX10_when_37 (by decide) rfl (fun hc => ?_) (fun hc => ?_)
  · replace hf := (if_pos hc).symm.trans hf
    refine xr_sub [] (lv2 := []) rfl ?_
    exact w_X10_when_47 C hf ko
  · replace hf := (if_neg hc).symm.trans hf
    refine xr_sub [0, 1] (lv2 := [(0, mm_r v0), (1, mm_i v1)]) rfl ?_
    exact w_X10_when_40 C hf ko
noncomputable def f_X10_when_7 (M : mm_M) (v0 : Option Nat) (v1 : Int32) (v2 : Int32) (v3 : Int32) : Option (Int32 × mm_M) :=
  (mm_rc M v0 11).bind fun u10 =>
  (f_X10_isSide M v0 v2 v3).bind fun x10 =>
  if x10 = 0 then f_X10_when_16 M else f_X10_when_18 M v0 v1 v2 v3
set_option maxRecDepth 20000 in
theorem w_X10_when_7 {g : mm_c} (C : mm_ok g cX10_when "LessonCardsModel" (some .int) "when" 4 3 70 0 0) {M : mm_M} {v0 : Option Nat} {v1 : Int32} {v2 : Int32} {v3 : Int32} {res : Int32 × mm_M} (hf : f_X10_when_7 M v0 v1 v2 v3 = some res) (ko : (fun z => mm_q g 0 0 (some (mm_i z.1)) z.2) res) : mm_X g 0 0 M 7 [(0, mm_r v0), (1, mm_i v1), (2, mm_i v2), (3, mm_i v3)] [] := by
  unfold f_X10_when_7 at hf
  refine xr_aload_n 8 0 C dX10_when_7 rfl rfl rfl ?_
  refine xr_iload_n 9 2 C dX10_when_8 rfl rfl rfl ?_
  refine xr_iload_n 10 3 C dX10_when_9 rfl rfl rfl ?_
  obtain ⟨u10, g10, hf⟩ := mm_bd_e hf
  obtain ⟨x10, h10, hf⟩ := mm_bd_e hf
  refine xr_callV 13 C [mm_i v2, mm_i v3] cm_X10_220 (fun l G cy => c_X10_isSide l G cy h10) g10 rfl rfl ⟨⟨Nat.le_of_ble_eq_true rfl, Nat.le_of_ble_eq_true rfl⟩, (Nat.le_of_ble_eq_true rfl), (Nat.le_of_ble_eq_true rfl)⟩ (Nat.le_of_ble_eq_true rfl) dX10_when_10 rfl ?_
  refine xr_if_ne 18 16 C dX10_when_13 (by decide) rfl (fun hc => ?_) (fun hc => ?_)
  · replace hf := (if_neg hc).symm.trans hf
    exact w_X10_when_18 C hf ko
  · replace hf := (if_pos hc).symm.trans hf
    refine xr_sub [] (lv2 := []) rfl ?_
    exact w_X10_when_16 C hf ko
noncomputable def f_X10_when_0 (M : mm_M) (v0 : Option Nat) (v1 : Int32) (v2 : Int32) (v3 : Int32) : Option (Int32 × mm_M) :=
  (f_X10_isPupil M v1).bind fun x1 =>
  if x1 = 0 then f_X10_when_16 M else f_X10_when_7 M v0 v1 v2 v3
set_option maxRecDepth 20000 in
theorem w_X10_when_0 {g : mm_c} (C : mm_ok g cX10_when "LessonCardsModel" (some .int) "when" 4 3 70 0 0) {M : mm_M} {v0 : Option Nat} {v1 : Int32} {v2 : Int32} {v3 : Int32} {res : Int32 × mm_M} (hf : f_X10_when_0 M v0 v1 v2 v3 = some res) (ko : (fun z => mm_q g 0 0 (some (mm_i z.1)) z.2) res) : mm_X g 0 0 M 0 [(0, mm_r v0), (1, mm_i v1), (2, mm_i v2), (3, mm_i v3)] [] := by
  unfold f_X10_when_0 at hf
  refine xr_iload_n 1 1 C dX10_when_0 rfl rfl rfl ?_
  obtain ⟨x1, h1, hf⟩ := mm_bd_e hf
  refine xr_callS 4 C [mm_i v1] cm_X10_190 (fun l G cy => c_X10_isPupil l G cy h1) rfl rfl ⟨⟨Nat.le_of_ble_eq_true rfl, Nat.le_of_ble_eq_true rfl⟩, (Nat.le_of_ble_eq_true rfl), (Nat.le_of_ble_eq_true rfl)⟩ (Nat.le_of_ble_eq_true rfl) dX10_when_1 rfl ?_
  refine xr_if_eq 16 7 C dX10_when_4 (by decide) rfl (fun hc => ?_) (fun hc => ?_)
  · replace hf := (if_pos hc).symm.trans hf
    refine xr_sub [] (lv2 := []) rfl ?_
    exact w_X10_when_16 C hf ko
  · replace hf := (if_neg hc).symm.trans hf
    exact w_X10_when_7 C hf ko
noncomputable def f_X10_when (M : mm_M) (v0 : Option Nat) (v1 : Int32) (v2 : Int32) (v3 : Int32) : Option (Int32 × mm_M) := f_X10_when_0 M v0 v1 v2 v3
theorem c_X10_when (l : Launch) (G : va_G) (cy : Nat → ClassId) {M : mm_M} {v0 : Option Nat} {v1 : Int32} {v2 : Int32} {v3 : Int32} {r : Int32} {M1 : mm_M} (hf : f_X10_when M v0 v1 v2 v3 = some (r, M1)) : mm_Met l yX10_when cX10_when 4 (some .int) 3 70 0 0 G cy [mm_r v0, mm_i v1, mm_i v2, mm_i v3] M (some (mm_i r)) M1 :=
  mm_enter (by decide) (Nat.le_of_ble_eq_true rfl) (fun p e R s m args below meth c Q C hq => xr_sub [0, 1, 2, 3] (lv2 := [(0, mm_r v0), (1, mm_i v1), (2, mm_i v2), (3, mm_i v3)]) rfl (w_X10_when_0 C hf hq))
def h_X10_sidesThat_17 (g : mm_c) (v0 : Option Nat) (v1 : Int32) (v2 : Int32) (v4 : Int32) : (mm_M × Int32 × Int32) → Prop := fun x => mm_X g 0 0 x.1 17 [(0, mm_r v0), (1, mm_i v1), (2, mm_i v2), (3, mm_i x.2.1), (4, mm_i v4), (5, mm_i x.2.2)] []
def h_X10_sidesThat_5 (g : mm_c) (v0 : Option Nat) (v1 : Int32) (v2 : Int32) : (mm_M × Int32 × Int32) → Prop := fun x => mm_X g 0 0 x.1 5 [(0, mm_r v0), (1, mm_i v1), (2, mm_i v2), (3, mm_i x.2.1), (4, mm_i x.2.2)] []
noncomputable def f_X10_sidesThat_95 (M : mm_M) (v0 : Option Nat) (v1 : Int32) (v2 : Int32) (v4 : Int32) (v5 : Int32) (s0 : Int32) (s1 : Int32) : Option ((mm_M × Int32 × Int32) ⊕ ((mm_M × Int32 × Int32) ⊕ (Int32 × mm_M))) :=
  some (.inl (M, (s0 + s1), (v5 + 1)))
set_option maxRecDepth 20000 in
theorem w_X10_sidesThat_95 {g : mm_c} (C : mm_ok g cX10_sidesThat "LessonCardsModel" (some .int) "sidesThat" 6 2 47 0 0) {M : mm_M} {v0 : Option Nat} {v1 : Int32} {v2 : Int32} {v4 : Int32} {v5 : Int32} {s0 : Int32} {s1 : Int32} {res : (mm_M × Int32 × Int32) ⊕ ((mm_M × Int32 × Int32) ⊕ (Int32 × mm_M))} (hf : f_X10_sidesThat_95 M v0 v1 v2 v4 v5 s0 s1 = some res) (ko : (mm_o (h_X10_sidesThat_17 g v0 v1 v2 v4) (mm_o (h_X10_sidesThat_5 g v0 v1 v2) (fun z => mm_q g 0 0 (some (mm_i z.1)) z.2))) res) : mm_X g 0 0 M 95 [(0, mm_r v0), (1, mm_i v1), (2, mm_i v2), (4, mm_i v4), (5, mm_i v5)] [mm_i s1, mm_i s0] := by
  unfold f_X10_sidesThat_95 at hf
  refine xr_iadd 96 C dX10_sidesThat_95 rfl ?_
  refine xr_istore_n 97 C dX10_sidesThat_96 rfl (by decide) rfl [(3, mm_i (s0 + s1)), (0, mm_r v0), (1, mm_i v1), (2, mm_i v2), (4, mm_i v4), (5, mm_i v5)] rfl ?_
  refine xr_iinc 100 5 C dX10_sidesThat_97 rfl (by decide) (v := 1) (by decide) rfl [(5, mm_i (v5 + 1)), (3, mm_i (s0 + s1)), (0, mm_r v0), (1, mm_i v1), (2, mm_i v2), (4, mm_i v4)] rfl ?_
  refine xr_goto 17 C dX10_sidesThat_100 (by decide) ?_
  refine xr_sub [2, 3, 4, 1, 5, 0] (lv2 := [(0, mm_r v0), (1, mm_i v1), (2, mm_i v2), (3, mm_i (s0 + s1)), (4, mm_i v4), (5, mm_i (v5 + 1))]) rfl ?_
  obtain rfl := Option.some.inj hf
  exact ko
noncomputable def f_X10_sidesThat_90 (M : mm_M) (v0 : Option Nat) (v1 : Int32) (v2 : Int32) (v4 : Int32) (v5 : Int32) (s0 : Int32) : Option ((mm_M × Int32 × Int32) ⊕ ((mm_M × Int32 × Int32) ⊕ (Int32 × mm_M))) :=
  f_X10_sidesThat_95 M v0 v1 v2 v4 v5 s0 1
set_option maxRecDepth 20000 in
theorem w_X10_sidesThat_90 {g : mm_c} (C : mm_ok g cX10_sidesThat "LessonCardsModel" (some .int) "sidesThat" 6 2 47 0 0) {M : mm_M} {v0 : Option Nat} {v1 : Int32} {v2 : Int32} {v4 : Int32} {v5 : Int32} {s0 : Int32} {res : (mm_M × Int32 × Int32) ⊕ ((mm_M × Int32 × Int32) ⊕ (Int32 × mm_M))} (hf : f_X10_sidesThat_90 M v0 v1 v2 v4 v5 s0 = some res) (ko : (mm_o (h_X10_sidesThat_17 g v0 v1 v2 v4) (mm_o (h_X10_sidesThat_5 g v0 v1 v2) (fun z => mm_q g 0 0 (some (mm_i z.1)) z.2))) res) : mm_X g 0 0 M 90 [(0, mm_r v0), (1, mm_i v1), (2, mm_i v2), (4, mm_i v4), (5, mm_i v5)] [mm_i s0] := by
  unfold f_X10_sidesThat_90 at hf
  refine xr_iconst 91 C (v := 1) dX10_sidesThat_90 (by decide) rfl ?_
  refine xr_goto 95 C dX10_sidesThat_91 (by decide) ?_
  exact w_X10_sidesThat_95 C hf ko
noncomputable def f_X10_sidesThat_65 (M : mm_M) (v0 : Option Nat) (v1 : Int32) (v2 : Int32) (v4 : Int32) (v5 : Int32) (s0 : Int32) : Option ((mm_M × Int32 × Int32) ⊕ ((mm_M × Int32 × Int32) ⊕ (Int32 × mm_M))) :=
  f_X10_sidesThat_90 M v0 v1 v2 v4 v5 s0
set_option maxRecDepth 20000 in
theorem w_X10_sidesThat_65 {g : mm_c} (C : mm_ok g cX10_sidesThat "LessonCardsModel" (some .int) "sidesThat" 6 2 47 0 0) {M : mm_M} {v0 : Option Nat} {v1 : Int32} {v2 : Int32} {v4 : Int32} {v5 : Int32} {s0 : Int32} {res : (mm_M × Int32 × Int32) ⊕ ((mm_M × Int32 × Int32) ⊕ (Int32 × mm_M))} (hf : f_X10_sidesThat_65 M v0 v1 v2 v4 v5 s0 = some res) (ko : (mm_o (h_X10_sidesThat_17 g v0 v1 v2 v4) (mm_o (h_X10_sidesThat_5 g v0 v1 v2) (fun z => mm_q g 0 0 (some (mm_i z.1)) z.2))) res) : mm_X g 0 0 M 65 [(0, mm_r v0), (1, mm_i v1), (2, mm_i v2), (4, mm_i v4), (5, mm_i v5)] [mm_i s0] := by
  unfold f_X10_sidesThat_65 at hf
  refine xr_goto 90 C dX10_sidesThat_65 (by decide) ?_
  exact w_X10_sidesThat_90 C hf ko
noncomputable def f_X10_sidesThat_94 (M : mm_M) (v0 : Option Nat) (v1 : Int32) (v2 : Int32) (v4 : Int32) (v5 : Int32) (s0 : Int32) : Option ((mm_M × Int32 × Int32) ⊕ ((mm_M × Int32 × Int32) ⊕ (Int32 × mm_M))) :=
  f_X10_sidesThat_95 M v0 v1 v2 v4 v5 s0 0
set_option maxRecDepth 20000 in
theorem w_X10_sidesThat_94 {g : mm_c} (C : mm_ok g cX10_sidesThat "LessonCardsModel" (some .int) "sidesThat" 6 2 47 0 0) {M : mm_M} {v0 : Option Nat} {v1 : Int32} {v2 : Int32} {v4 : Int32} {v5 : Int32} {s0 : Int32} {res : (mm_M × Int32 × Int32) ⊕ ((mm_M × Int32 × Int32) ⊕ (Int32 × mm_M))} (hf : f_X10_sidesThat_94 M v0 v1 v2 v4 v5 s0 = some res) (ko : (mm_o (h_X10_sidesThat_17 g v0 v1 v2 v4) (mm_o (h_X10_sidesThat_5 g v0 v1 v2) (fun z => mm_q g 0 0 (some (mm_i z.1)) z.2))) res) : mm_X g 0 0 M 94 [(0, mm_r v0), (1, mm_i v1), (2, mm_i v2), (4, mm_i v4), (5, mm_i v5)] [mm_i s0] := by
  unfold f_X10_sidesThat_94 at hf
  refine xr_iconst 95 C (v := 0) dX10_sidesThat_94 (by decide) rfl ?_
  exact w_X10_sidesThat_95 C hf ko
noncomputable def f_X10_sidesThat_52 (M : mm_M) (v0 : Option Nat) (v1 : Int32) (v2 : Int32) (v4 : Int32) (v5 : Int32) (s0 : Int32) : Option ((mm_M × Int32 × Int32) ⊕ ((mm_M × Int32 × Int32) ⊕ (Int32 × mm_M))) :=
  (mm_fR M v0 11 8).bind fun x54 =>
  (mm_aI M x54 12 v1).bind fun x58 =>
  (mm_rc M v0 11).bind fun u59 =>
  (f_X10_isDue M v0 x58).bind fun x59 =>
  if x59 = 0 then f_X10_sidesThat_94 M v0 v1 v2 v4 v5 s0 else f_X10_sidesThat_65 M v0 v1 v2 v4 v5 s0
set_option maxRecDepth 20000 in
theorem w_X10_sidesThat_52 {g : mm_c} (C : mm_ok g cX10_sidesThat "LessonCardsModel" (some .int) "sidesThat" 6 2 47 0 0) {M : mm_M} {v0 : Option Nat} {v1 : Int32} {v2 : Int32} {v4 : Int32} {v5 : Int32} {s0 : Int32} {res : (mm_M × Int32 × Int32) ⊕ ((mm_M × Int32 × Int32) ⊕ (Int32 × mm_M))} (hf : f_X10_sidesThat_52 M v0 v1 v2 v4 v5 s0 = some res) (ko : (mm_o (h_X10_sidesThat_17 g v0 v1 v2 v4) (mm_o (h_X10_sidesThat_5 g v0 v1 v2) (fun z => mm_q g 0 0 (some (mm_i z.1)) z.2))) res) : mm_X g 0 0 M 52 [(0, mm_r v0), (1, mm_i v1), (2, mm_i v2), (4, mm_i v4), (5, mm_i v5)] [mm_i s0] := by
  unfold f_X10_sidesThat_52 at hf
  refine xr_aload_n 53 0 C dX10_sidesThat_52 rfl rfl rfl ?_
  refine xr_aload_n 54 0 C dX10_sidesThat_53 rfl rfl rfl ?_
  obtain ⟨x54, h54, hf⟩ := mm_bd_e hf
  refine xr_getR 57 C cf_X10_29 rfl h54 dX10_sidesThat_54 rfl ?_
  refine xr_iload_n 58 1 C dX10_sidesThat_57 rfl rfl rfl ?_
  obtain ⟨x58, h58, hf⟩ := mm_bd_e hf
  refine xr_aldI 59 C h58 dX10_sidesThat_58 rfl ?_
  obtain ⟨u59, g59, hf⟩ := mm_bd_e hf
  obtain ⟨x59, h59, hf⟩ := mm_bd_e hf
  refine xr_callV 62 C [mm_i x58] cm_X10_184 (fun l G cy => c_X10_isDue l G cy h59) g59 rfl rfl ⟨⟨Nat.le_of_ble_eq_true rfl, Nat.le_of_ble_eq_true rfl⟩, (Nat.le_of_ble_eq_true rfl), (Nat.le_of_ble_eq_true rfl)⟩ (Nat.le_of_ble_eq_true rfl) dX10_sidesThat_59 rfl ?_
  refine xr_if_eq 94 65 C dX10_sidesThat_62 (by decide) rfl (fun hc => ?_) (fun hc => ?_)
  · replace hf := (if_pos hc).symm.trans hf
    exact w_X10_sidesThat_94 C hf ko
  · replace hf := (if_neg hc).symm.trans hf
    exact w_X10_sidesThat_65 C hf ko
noncomputable def f_X10_sidesThat_80 (M : mm_M) (v0 : Option Nat) (v1 : Int32) (v2 : Int32) (v4 : Int32) (v5 : Int32) (s0 : Int32) : Option ((mm_M × Int32 × Int32) ⊕ ((mm_M × Int32 × Int32) ⊕ (Int32 × mm_M))) :=
  f_X10_sidesThat_90 M v0 v1 v2 v4 v5 s0
set_option maxRecDepth 20000 in
theorem w_X10_sidesThat_80 {g : mm_c} (C : mm_ok g cX10_sidesThat "LessonCardsModel" (some .int) "sidesThat" 6 2 47 0 0) {M : mm_M} {v0 : Option Nat} {v1 : Int32} {v2 : Int32} {v4 : Int32} {v5 : Int32} {s0 : Int32} {res : (mm_M × Int32 × Int32) ⊕ ((mm_M × Int32 × Int32) ⊕ (Int32 × mm_M))} (hf : f_X10_sidesThat_80 M v0 v1 v2 v4 v5 s0 = some res) (ko : (mm_o (h_X10_sidesThat_17 g v0 v1 v2 v4) (mm_o (h_X10_sidesThat_5 g v0 v1 v2) (fun z => mm_q g 0 0 (some (mm_i z.1)) z.2))) res) : mm_X g 0 0 M 80 [(0, mm_r v0), (1, mm_i v1), (2, mm_i v2), (4, mm_i v4), (5, mm_i v5)] [mm_i s0] := by
  unfold f_X10_sidesThat_80 at hf
  refine xr_goto 90 C dX10_sidesThat_80 (by decide) ?_
  exact w_X10_sidesThat_90 C hf ko
noncomputable def f_X10_sidesThat_73 (M : mm_M) (v0 : Option Nat) (v1 : Int32) (v2 : Int32) (v4 : Int32) (v5 : Int32) (s0 : Int32) : Option ((mm_M × Int32 × Int32) ⊕ ((mm_M × Int32 × Int32) ⊕ (Int32 × mm_M))) :=
  (mm_fI M v0 11 29).bind fun x74 =>
  if x74 = 0 then f_X10_sidesThat_80 M v0 v1 v2 v4 v5 s0 else f_X10_sidesThat_94 M v0 v1 v2 v4 v5 s0
set_option maxRecDepth 20000 in
theorem w_X10_sidesThat_73 {g : mm_c} (C : mm_ok g cX10_sidesThat "LessonCardsModel" (some .int) "sidesThat" 6 2 47 0 0) {M : mm_M} {v0 : Option Nat} {v1 : Int32} {v2 : Int32} {v4 : Int32} {v5 : Int32} {s0 : Int32} {res : (mm_M × Int32 × Int32) ⊕ ((mm_M × Int32 × Int32) ⊕ (Int32 × mm_M))} (hf : f_X10_sidesThat_73 M v0 v1 v2 v4 v5 s0 = some res) (ko : (mm_o (h_X10_sidesThat_17 g v0 v1 v2 v4) (mm_o (h_X10_sidesThat_5 g v0 v1 v2) (fun z => mm_q g 0 0 (some (mm_i z.1)) z.2))) res) : mm_X g 0 0 M 73 [(0, mm_r v0), (1, mm_i v1), (2, mm_i v2), (4, mm_i v4), (5, mm_i v5)] [mm_i s0] := by
  unfold f_X10_sidesThat_73 at hf
  refine xr_aload_n 74 0 C dX10_sidesThat_73 rfl rfl rfl ?_
  obtain ⟨x74, h74, hf⟩ := mm_bd_e hf
  refine xr_getI 77 C cf_X10_135 rfl h74 dX10_sidesThat_74 rfl ?_
  refine xr_if_ne 94 80 C dX10_sidesThat_77 (by decide) rfl (fun hc => ?_) (fun hc => ?_)
  · replace hf := (if_neg hc).symm.trans hf
    exact w_X10_sidesThat_94 C hf ko
  · replace hf := (if_pos hc).symm.trans hf
    exact w_X10_sidesThat_80 C hf ko
noncomputable def f_X10_sidesThat_83 (M : mm_M) (v0 : Option Nat) (v1 : Int32) (v2 : Int32) (v4 : Int32) (v5 : Int32) (s0 : Int32) : Option ((mm_M × Int32 × Int32) ⊕ ((mm_M × Int32 × Int32) ⊕ (Int32 × mm_M))) :=
  (mm_rc M v0 11).bind fun u84 =>
  (f_X10_isLeech M v0).bind fun x84 =>
  if x84 = 0 then f_X10_sidesThat_94 M v0 v1 v2 v4 v5 s0 else f_X10_sidesThat_90 M v0 v1 v2 v4 v5 s0
set_option maxRecDepth 20000 in
theorem w_X10_sidesThat_83 {g : mm_c} (C : mm_ok g cX10_sidesThat "LessonCardsModel" (some .int) "sidesThat" 6 2 47 0 0) {M : mm_M} {v0 : Option Nat} {v1 : Int32} {v2 : Int32} {v4 : Int32} {v5 : Int32} {s0 : Int32} {res : (mm_M × Int32 × Int32) ⊕ ((mm_M × Int32 × Int32) ⊕ (Int32 × mm_M))} (hf : f_X10_sidesThat_83 M v0 v1 v2 v4 v5 s0 = some res) (ko : (mm_o (h_X10_sidesThat_17 g v0 v1 v2 v4) (mm_o (h_X10_sidesThat_5 g v0 v1 v2) (fun z => mm_q g 0 0 (some (mm_i z.1)) z.2))) res) : mm_X g 0 0 M 83 [(0, mm_r v0), (1, mm_i v1), (2, mm_i v2), (4, mm_i v4), (5, mm_i v5)] [mm_i s0] := by
  unfold f_X10_sidesThat_83 at hf
  refine xr_aload_n 84 0 C dX10_sidesThat_83 rfl rfl rfl ?_
  obtain ⟨u84, g84, hf⟩ := mm_bd_e hf
  obtain ⟨x84, h84, hf⟩ := mm_bd_e hf
  refine xr_callV 87 C [] cm_X10_176 (fun l G cy => c_X10_isLeech l G cy h84) g84 rfl rfl ⟨⟨Nat.le_of_ble_eq_true rfl, Nat.le_of_ble_eq_true rfl⟩, (Nat.le_of_ble_eq_true rfl), (Nat.le_of_ble_eq_true rfl)⟩ (Nat.le_of_ble_eq_true rfl) dX10_sidesThat_84 rfl ?_
  refine xr_if_eq 94 90 C dX10_sidesThat_87 (by decide) rfl (fun hc => ?_) (fun hc => ?_)
  · replace hf := (if_pos hc).symm.trans hf
    exact w_X10_sidesThat_94 C hf ko
  · replace hf := (if_neg hc).symm.trans hf
    exact w_X10_sidesThat_90 C hf ko
noncomputable def f_X10_sidesThat_68 (M : mm_M) (v0 : Option Nat) (v1 : Int32) (v2 : Int32) (v4 : Int32) (v5 : Int32) (s0 : Int32) : Option ((mm_M × Int32 × Int32) ⊕ ((mm_M × Int32 × Int32) ⊕ (Int32 × mm_M))) :=
  if v2 = 2 then f_X10_sidesThat_73 M v0 v1 v2 v4 v5 s0 else f_X10_sidesThat_83 M v0 v1 v2 v4 v5 s0
set_option maxRecDepth 20000 in
theorem w_X10_sidesThat_68 {g : mm_c} (C : mm_ok g cX10_sidesThat "LessonCardsModel" (some .int) "sidesThat" 6 2 47 0 0) {M : mm_M} {v0 : Option Nat} {v1 : Int32} {v2 : Int32} {v4 : Int32} {v5 : Int32} {s0 : Int32} {res : (mm_M × Int32 × Int32) ⊕ ((mm_M × Int32 × Int32) ⊕ (Int32 × mm_M))} (hf : f_X10_sidesThat_68 M v0 v1 v2 v4 v5 s0 = some res) (ko : (mm_o (h_X10_sidesThat_17 g v0 v1 v2 v4) (mm_o (h_X10_sidesThat_5 g v0 v1 v2) (fun z => mm_q g 0 0 (some (mm_i z.1)) z.2))) res) : mm_X g 0 0 M 68 [(0, mm_r v0), (1, mm_i v1), (2, mm_i v2), (4, mm_i v4), (5, mm_i v5)] [mm_i s0] := by
  unfold f_X10_sidesThat_68 at hf
  refine xr_iload_n 69 2 C dX10_sidesThat_68 rfl rfl rfl ?_
  refine xr_iconst 70 C (v := 2) dX10_sidesThat_69 (by decide) rfl ?_
  refine xr_icmp_ne 83 73 C dX10_sidesThat_70 (by decide) rfl (fun hc => ?_) (fun hc => ?_)
  · replace hf := (if_neg hc).symm.trans hf
    exact w_X10_sidesThat_83 C hf ko
  · replace hf := (if_pos hc).symm.trans hf
    exact w_X10_sidesThat_73 C hf ko
noncomputable def f_X10_sidesThat_29 (M : mm_M) (v0 : Option Nat) (v1 : Int32) (v2 : Int32) (v3 : Int32) (v4 : Int32) (v5 : Int32) : Option ((mm_M × Int32 × Int32) ⊕ ((mm_M × Int32 × Int32) ⊕ (Int32 × mm_M))) :=
  (mm_rc M v0 11).bind fun u43 =>
  (f_X10_take M v0 (((v1 * 480) + (4 * v4)) + v5)).bind fun M43 =>
  if v2 = 1 then f_X10_sidesThat_52 M43 v0 v1 v2 v4 v5 v3 else f_X10_sidesThat_68 M43 v0 v1 v2 v4 v5 v3
set_option maxRecDepth 20000 in
theorem w_X10_sidesThat_29 {g : mm_c} (C : mm_ok g cX10_sidesThat "LessonCardsModel" (some .int) "sidesThat" 6 2 47 0 0) {M : mm_M} {v0 : Option Nat} {v1 : Int32} {v2 : Int32} {v3 : Int32} {v4 : Int32} {v5 : Int32} {res : (mm_M × Int32 × Int32) ⊕ ((mm_M × Int32 × Int32) ⊕ (Int32 × mm_M))} (hf : f_X10_sidesThat_29 M v0 v1 v2 v3 v4 v5 = some res) (ko : (mm_o (h_X10_sidesThat_17 g v0 v1 v2 v4) (mm_o (h_X10_sidesThat_5 g v0 v1 v2) (fun z => mm_q g 0 0 (some (mm_i z.1)) z.2))) res) : mm_X g 0 0 M 29 [(0, mm_r v0), (1, mm_i v1), (2, mm_i v2), (3, mm_i v3), (4, mm_i v4), (5, mm_i v5)] [] := by
  unfold f_X10_sidesThat_29 at hf
  refine xr_aload_n 30 0 C dX10_sidesThat_29 rfl rfl rfl ?_
  refine xr_iload_n 31 1 C dX10_sidesThat_30 rfl rfl rfl ?_
  refine xr_sipush 34 C (v := 480) dX10_sidesThat_31 (by decide) rfl ?_
  refine xr_imul 35 C dX10_sidesThat_34 rfl ?_
  refine xr_iconst 36 C (v := 4) dX10_sidesThat_35 (by decide) rfl ?_
  refine xr_iload 38 4 C dX10_sidesThat_36 rfl rfl ?_
  refine xr_imul 39 C dX10_sidesThat_38 rfl ?_
  refine xr_iadd 40 C dX10_sidesThat_39 rfl ?_
  refine xr_iload 42 5 C dX10_sidesThat_40 rfl rfl ?_
  refine xr_iadd 43 C dX10_sidesThat_42 rfl ?_
  obtain ⟨u43, g43, hf⟩ := mm_bd_e hf
  obtain ⟨M43, h43, hf⟩ := mm_bd_e hf
  refine xr_callV 46 C [mm_i (((v1 * 480) + (4 * v4)) + v5)] cm_X10_180 (fun l G cy => c_X10_take l G cy h43) g43 rfl rfl ⟨⟨Nat.le_of_ble_eq_true rfl, Nat.le_of_ble_eq_true rfl⟩, (Nat.le_of_ble_eq_true rfl), (Nat.le_of_ble_eq_true rfl)⟩ (Nat.le_of_ble_eq_true rfl) dX10_sidesThat_43 rfl ?_
  refine xr_iload_n 47 3 C dX10_sidesThat_46 rfl rfl rfl ?_
  refine xr_iload_n 48 2 C dX10_sidesThat_47 rfl rfl rfl ?_
  refine xr_iconst 49 C (v := 1) dX10_sidesThat_48 (by decide) rfl ?_
  refine xr_icmp_ne 68 52 C dX10_sidesThat_49 (by decide) rfl (fun hc => ?_) (fun hc => ?_)
  · replace hf := (if_neg hc).symm.trans hf
    refine xr_sub [0, 1, 2, 4, 5] (lv2 := [(0, mm_r v0), (1, mm_i v1), (2, mm_i v2), (4, mm_i v4), (5, mm_i v5)]) rfl ?_
    exact w_X10_sidesThat_68 C hf ko
  · replace hf := (if_pos hc).symm.trans hf
    refine xr_sub [0, 1, 2, 4, 5] (lv2 := [(0, mm_r v0), (1, mm_i v1), (2, mm_i v2), (4, mm_i v4), (5, mm_i v5)]) rfl ?_
    exact w_X10_sidesThat_52 C hf ko
noncomputable def f_X10_sidesThat_103 (M : mm_M) (v0 : Option Nat) (v1 : Int32) (v2 : Int32) (v3 : Int32) (v4 : Int32) : Option ((mm_M × Int32 × Int32) ⊕ (Int32 × mm_M)) :=
  some (.inl (M, v3, (v4 + 1)))
set_option maxRecDepth 20000 in
theorem w_X10_sidesThat_103 {g : mm_c} (C : mm_ok g cX10_sidesThat "LessonCardsModel" (some .int) "sidesThat" 6 2 47 0 0) {M : mm_M} {v0 : Option Nat} {v1 : Int32} {v2 : Int32} {v3 : Int32} {v4 : Int32} {res : (mm_M × Int32 × Int32) ⊕ (Int32 × mm_M)} (hf : f_X10_sidesThat_103 M v0 v1 v2 v3 v4 = some res) (ko : (mm_o (h_X10_sidesThat_5 g v0 v1 v2) (fun z => mm_q g 0 0 (some (mm_i z.1)) z.2)) res) : mm_X g 0 0 M 103 [(0, mm_r v0), (1, mm_i v1), (2, mm_i v2), (3, mm_i v3), (4, mm_i v4)] [] := by
  unfold f_X10_sidesThat_103 at hf
  refine xr_iinc 106 4 C dX10_sidesThat_103 rfl (by decide) (v := 1) (by decide) rfl [(4, mm_i (v4 + 1)), (0, mm_r v0), (1, mm_i v1), (2, mm_i v2), (3, mm_i v3)] rfl ?_
  refine xr_goto 5 C dX10_sidesThat_106 (by decide) ?_
  refine xr_sub [1, 2, 3, 4, 0] (lv2 := [(0, mm_r v0), (1, mm_i v1), (2, mm_i v2), (3, mm_i v3), (4, mm_i (v4 + 1))]) rfl ?_
  obtain rfl := Option.some.inj hf
  exact ko
noncomputable def f_X10_sidesThat_17 (M : mm_M) (v0 : Option Nat) (v1 : Int32) (v2 : Int32) (v3 : Int32) (v4 : Int32) (v5 : Int32) : Option ((mm_M × Int32 × Int32) ⊕ ((mm_M × Int32 × Int32) ⊕ (Int32 × mm_M))) :=
  (mm_fR M v0 11 0).bind fun x20 =>
  (mm_aI M x20 12 v4).bind fun x25 =>
  if x25 ≤ v5 then mm_mp (f_X10_sidesThat_103 M v0 v1 v2 v3 v4) else f_X10_sidesThat_29 M v0 v1 v2 v3 v4 v5
set_option maxRecDepth 20000 in
theorem w_X10_sidesThat_17 {g : mm_c} (C : mm_ok g cX10_sidesThat "LessonCardsModel" (some .int) "sidesThat" 6 2 47 0 0) {M : mm_M} {v0 : Option Nat} {v1 : Int32} {v2 : Int32} {v3 : Int32} {v4 : Int32} {v5 : Int32} {res : (mm_M × Int32 × Int32) ⊕ ((mm_M × Int32 × Int32) ⊕ (Int32 × mm_M))} (hf : f_X10_sidesThat_17 M v0 v1 v2 v3 v4 v5 = some res) (ko : (mm_o (h_X10_sidesThat_17 g v0 v1 v2 v4) (mm_o (h_X10_sidesThat_5 g v0 v1 v2) (fun z => mm_q g 0 0 (some (mm_i z.1)) z.2))) res) : mm_X g 0 0 M 17 [(0, mm_r v0), (1, mm_i v1), (2, mm_i v2), (3, mm_i v3), (4, mm_i v4), (5, mm_i v5)] [] := by
  unfold f_X10_sidesThat_17 at hf
  refine xr_iload 19 5 C dX10_sidesThat_17 rfl rfl ?_
  refine xr_aload_n 20 0 C dX10_sidesThat_19 rfl rfl rfl ?_
  obtain ⟨x20, h20, hf⟩ := mm_bd_e hf
  refine xr_getR 23 C cf_X10_9 rfl h20 dX10_sidesThat_20 rfl ?_
  refine xr_iload 25 4 C dX10_sidesThat_23 rfl rfl ?_
  obtain ⟨x25, h25, hf⟩ := mm_bd_e hf
  refine xr_aldI 26 C h25 dX10_sidesThat_25 rfl ?_
  refine xr_icmp_ge 103 29 C dX10_sidesThat_26 (by decide) rfl (fun hc => ?_) (fun hc => ?_)
  · replace hf := (if_pos hc).symm.trans hf
    refine xr_sub [0, 1, 2, 3, 4] (lv2 := [(0, mm_r v0), (1, mm_i v1), (2, mm_i v2), (3, mm_i v3), (4, mm_i v4)]) rfl ?_
    obtain ⟨z, hf2, rfl⟩ := mm_mp_e hf
    clear hf
    have hf := hf2
    clear hf2
    exact w_X10_sidesThat_103 C hf ko
  · replace hf := (if_neg hc).symm.trans hf
    exact w_X10_sidesThat_29 C hf ko
noncomputable def f_X10_sidesThat_17w (M : mm_M) (v0 : Option Nat) (v1 : Int32) (v2 : Int32) (v3 : Int32) (v4 : Int32) (v5 : Int32) : Option ((mm_M × Int32 × Int32) ⊕ (Int32 × mm_M)) := mm_w (fun x => f_X10_sidesThat_17 x.1 v0 v1 v2 x.2.1 v4 x.2.2) (M, v3, v5)
theorem l_X10_sidesThat_17 {g : mm_c} (C : mm_ok g cX10_sidesThat "LessonCardsModel" (some .int) "sidesThat" 6 2 47 0 0) {M : mm_M} {v0 : Option Nat} {v1 : Int32} {v2 : Int32} {v3 : Int32} {v4 : Int32} {v5 : Int32} {res : (mm_M × Int32 × Int32) ⊕ (Int32 × mm_M)} (hf : f_X10_sidesThat_17w M v0 v1 v2 v3 v4 v5 = some res) (ko : (mm_o (h_X10_sidesThat_5 g v0 v1 v2) (fun z => mm_q g 0 0 (some (mm_i z.1)) z.2)) res) : mm_X g 0 0 M 17 [(0, mm_r v0), (1, mm_i v1), (2, mm_i v2), (3, mm_i v3), (4, mm_i v4), (5, mm_i v5)] [] :=
  mm_w_W (body := fun x => f_X10_sidesThat_17 x.1 v0 v1 v2 x.2.1 v4 x.2.2) (Wh := h_X10_sidesThat_17 g v0 v1 v2 v4) (ok := (mm_o (h_X10_sidesThat_5 g v0 v1 v2) (fun z => mm_q g 0 0 (some (mm_i z.1)) z.2))) (x := (M, v3, v5)) (fun x r hb ho => w_X10_sidesThat_17 C hb ho) hf ko
noncomputable def f_X10_sidesThat_14 (M : mm_M) (v0 : Option Nat) (v1 : Int32) (v2 : Int32) (v3 : Int32) (v4 : Int32) : Option ((mm_M × Int32 × Int32) ⊕ (Int32 × mm_M)) :=
  f_X10_sidesThat_17w M v0 v1 v2 v3 v4 0
set_option maxRecDepth 20000 in
theorem w_X10_sidesThat_14 {g : mm_c} (C : mm_ok g cX10_sidesThat "LessonCardsModel" (some .int) "sidesThat" 6 2 47 0 0) {M : mm_M} {v0 : Option Nat} {v1 : Int32} {v2 : Int32} {v3 : Int32} {v4 : Int32} {res : (mm_M × Int32 × Int32) ⊕ (Int32 × mm_M)} (hf : f_X10_sidesThat_14 M v0 v1 v2 v3 v4 = some res) (ko : (mm_o (h_X10_sidesThat_5 g v0 v1 v2) (fun z => mm_q g 0 0 (some (mm_i z.1)) z.2)) res) : mm_X g 0 0 M 14 [(0, mm_r v0), (1, mm_i v1), (2, mm_i v2), (3, mm_i v3), (4, mm_i v4)] [] := by
  unfold f_X10_sidesThat_14 at hf
  refine xr_iconst 15 C (v := 0) dX10_sidesThat_14 (by decide) rfl ?_
  refine xr_istore 17 C dX10_sidesThat_15 (by decide) rfl [(5, mm_i 0), (0, mm_r v0), (1, mm_i v1), (2, mm_i v2), (3, mm_i v3), (4, mm_i v4)] rfl ?_
  refine xr_sub [1, 2, 3, 4, 5, 0] (lv2 := [(0, mm_r v0), (1, mm_i v1), (2, mm_i v2), (3, mm_i v3), (4, mm_i v4), (5, mm_i 0)]) rfl ?_
  exact l_X10_sidesThat_17 C hf ko
noncomputable def f_X10_sidesThat_109 (M : mm_M) (v3 : Int32) : Option (Int32 × mm_M) :=
  some (v3, M)
set_option maxRecDepth 20000 in
theorem w_X10_sidesThat_109 {g : mm_c} (C : mm_ok g cX10_sidesThat "LessonCardsModel" (some .int) "sidesThat" 6 2 47 0 0) {M : mm_M} {v3 : Int32} {res : Int32 × mm_M} (hf : f_X10_sidesThat_109 M v3 = some res) (ko : (fun z => mm_q g 0 0 (some (mm_i z.1)) z.2) res) : mm_X g 0 0 M 109 [(3, mm_i v3)] [] := by
  unfold f_X10_sidesThat_109 at hf
  refine xr_iload_n 110 0 C dX10_sidesThat_109 rfl rfl rfl ?_
  obtain rfl := Option.some.inj hf
  exact xr_iret C ko ⟨(Nat.le_of_ble_eq_true rfl), (Nat.le_of_ble_eq_true rfl)⟩ dX10_sidesThat_110
noncomputable def f_X10_sidesThat_5 (M : mm_M) (v0 : Option Nat) (v1 : Int32) (v2 : Int32) (v3 : Int32) (v4 : Int32) : Option ((mm_M × Int32 × Int32) ⊕ (Int32 × mm_M)) :=
  (mm_fI M v0 11 3).bind fun x8 =>
  if x8 ≤ v4 then mm_mp (f_X10_sidesThat_109 M v3) else f_X10_sidesThat_14 M v0 v1 v2 v3 v4
set_option maxRecDepth 20000 in
theorem w_X10_sidesThat_5 {g : mm_c} (C : mm_ok g cX10_sidesThat "LessonCardsModel" (some .int) "sidesThat" 6 2 47 0 0) {M : mm_M} {v0 : Option Nat} {v1 : Int32} {v2 : Int32} {v3 : Int32} {v4 : Int32} {res : (mm_M × Int32 × Int32) ⊕ (Int32 × mm_M)} (hf : f_X10_sidesThat_5 M v0 v1 v2 v3 v4 = some res) (ko : (mm_o (h_X10_sidesThat_5 g v0 v1 v2) (fun z => mm_q g 0 0 (some (mm_i z.1)) z.2)) res) : mm_X g 0 0 M 5 [(0, mm_r v0), (1, mm_i v1), (2, mm_i v2), (3, mm_i v3), (4, mm_i v4)] [] := by
  unfold f_X10_sidesThat_5 at hf
  refine xr_iload 7 4 C dX10_sidesThat_5 rfl rfl ?_
  refine xr_aload_n 8 0 C dX10_sidesThat_7 rfl rfl rfl ?_
  obtain ⟨x8, h8, hf⟩ := mm_bd_e hf
  refine xr_getI 11 C cf_X10_116 rfl h8 dX10_sidesThat_8 rfl ?_
  refine xr_icmp_ge 109 14 C dX10_sidesThat_11 (by decide) rfl (fun hc => ?_) (fun hc => ?_)
  · replace hf := (if_pos hc).symm.trans hf
    refine xr_sub [3] (lv2 := [(3, mm_i v3)]) rfl ?_
    obtain ⟨z, hf2, rfl⟩ := mm_mp_e hf
    clear hf
    have hf := hf2
    clear hf2
    exact w_X10_sidesThat_109 C hf ko
  · replace hf := (if_neg hc).symm.trans hf
    exact w_X10_sidesThat_14 C hf ko
noncomputable def f_X10_sidesThat_5w (M : mm_M) (v0 : Option Nat) (v1 : Int32) (v2 : Int32) (v3 : Int32) (v4 : Int32) : Option (Int32 × mm_M) := mm_w (fun x => f_X10_sidesThat_5 x.1 v0 v1 v2 x.2.1 x.2.2) (M, v3, v4)
theorem l_X10_sidesThat_5 {g : mm_c} (C : mm_ok g cX10_sidesThat "LessonCardsModel" (some .int) "sidesThat" 6 2 47 0 0) {M : mm_M} {v0 : Option Nat} {v1 : Int32} {v2 : Int32} {v3 : Int32} {v4 : Int32} {res : Int32 × mm_M} (hf : f_X10_sidesThat_5w M v0 v1 v2 v3 v4 = some res) (ko : (fun z => mm_q g 0 0 (some (mm_i z.1)) z.2) res) : mm_X g 0 0 M 5 [(0, mm_r v0), (1, mm_i v1), (2, mm_i v2), (3, mm_i v3), (4, mm_i v4)] [] :=
  mm_w_W (body := fun x => f_X10_sidesThat_5 x.1 v0 v1 v2 x.2.1 x.2.2) (Wh := h_X10_sidesThat_5 g v0 v1 v2) (ok := (fun z => mm_q g 0 0 (some (mm_i z.1)) z.2)) (x := (M, v3, v4)) (fun x r hb ho => w_X10_sidesThat_5 C hb ho) hf ko
noncomputable def f_X10_sidesThat_0 (M : mm_M) (v0 : Option Nat) (v1 : Int32) (v2 : Int32) : Option (Int32 × mm_M) :=
  f_X10_sidesThat_5w M v0 v1 v2 0 0
set_option maxRecDepth 20000 in
theorem w_X10_sidesThat_0 {g : mm_c} (C : mm_ok g cX10_sidesThat "LessonCardsModel" (some .int) "sidesThat" 6 2 47 0 0) {M : mm_M} {v0 : Option Nat} {v1 : Int32} {v2 : Int32} {res : Int32 × mm_M} (hf : f_X10_sidesThat_0 M v0 v1 v2 = some res) (ko : (fun z => mm_q g 0 0 (some (mm_i z.1)) z.2) res) : mm_X g 0 0 M 0 [(0, mm_r v0), (1, mm_i v1), (2, mm_i v2)] [] := by
  unfold f_X10_sidesThat_0 at hf
  refine xr_iconst 1 C (v := 0) dX10_sidesThat_0 (by decide) rfl ?_
  refine xr_istore_n 2 C dX10_sidesThat_1 rfl (by decide) rfl [(3, mm_i 0), (0, mm_r v0), (1, mm_i v1), (2, mm_i v2)] rfl ?_
  refine xr_iconst 3 C (v := 0) dX10_sidesThat_2 (by decide) rfl ?_
  refine xr_istore 5 C dX10_sidesThat_3 (by decide) rfl [(4, mm_i 0), (3, mm_i 0), (0, mm_r v0), (1, mm_i v1), (2, mm_i v2)] rfl ?_
  refine xr_sub [2, 3, 4, 1, 0] (lv2 := [(0, mm_r v0), (1, mm_i v1), (2, mm_i v2), (3, mm_i 0), (4, mm_i 0)]) rfl ?_
  exact l_X10_sidesThat_5 C hf ko
noncomputable def f_X10_sidesThat (M : mm_M) (v0 : Option Nat) (v1 : Int32) (v2 : Int32) : Option (Int32 × mm_M) := f_X10_sidesThat_0 M v0 v1 v2
theorem c_X10_sidesThat (l : Launch) (G : va_G) (cy : Nat → ClassId) {M : mm_M} {v0 : Option Nat} {v1 : Int32} {v2 : Int32} {r : Int32} {M1 : mm_M} (hf : f_X10_sidesThat M v0 v1 v2 = some (r, M1)) : mm_Met l yX10_sidesThat cX10_sidesThat 6 (some .int) 2 47 0 0 G cy [mm_r v0, mm_i v1, mm_i v2] M (some (mm_i r)) M1 :=
  mm_enter (by decide) (Nat.le_of_ble_eq_true rfl) (fun p e R s m args below meth c Q C hq => xr_sub [0, 1, 2] (lv2 := [(0, mm_r v0), (1, mm_i v1), (2, mm_i v2)]) rfl (w_X10_sidesThat_0 C hf hq))
def h_X10_pupil_60 (g : mm_c) (v0 : Option Nat) (v1 : Int32) : (mm_M × Int32 × Int32) → Prop := fun x => mm_X g 0 0 x.1 60 [(0, mm_r v0), (1, mm_i v1), (3, mm_i x.2.1), (4, mm_i x.2.2)] []
noncomputable def f_X10_pupil_16 (M : mm_M) : Option (Int32 × mm_M) :=
  some ((-1), M)
set_option maxRecDepth 20000 in
theorem w_X10_pupil_16 {g : mm_c} (C : mm_ok g cX10_pupil "LessonCardsModel" (some .int) "pupil" 5 4 94 0 0) {M : mm_M} {res : Int32 × mm_M} (hf : f_X10_pupil_16 M = some res) (ko : (fun z => mm_q g 0 0 (some (mm_i z.1)) z.2) res) : mm_X g 0 0 M 16 [] [] := by
  unfold f_X10_pupil_16 at hf
  refine xr_iconst 17 C (v := (-1)) dX10_pupil_16 (by decide) rfl ?_
  obtain rfl := Option.some.inj hf
  exact xr_iret C ko ⟨(Nat.le_of_ble_eq_true rfl), (Nat.le_of_ble_eq_true rfl)⟩ dX10_pupil_17
noncomputable def f_X10_pupil_45 (M : mm_M) (s0 : Int32) : Option (Int32 × mm_M) :=
  some (s0, M)
set_option maxRecDepth 20000 in
theorem w_X10_pupil_45 {g : mm_c} (C : mm_ok g cX10_pupil "LessonCardsModel" (some .int) "pupil" 5 4 94 0 0) {M : mm_M} {s0 : Int32} {res : Int32 × mm_M} (hf : f_X10_pupil_45 M s0 = some res) (ko : (fun z => mm_q g 0 0 (some (mm_i z.1)) z.2) res) : mm_X g 0 0 M 45 [] [mm_i s0] := by
  unfold f_X10_pupil_45 at hf
  obtain rfl := Option.some.inj hf
  exact xr_iret C ko ⟨(Nat.le_of_ble_eq_true rfl), (Nat.le_of_ble_eq_true rfl)⟩ dX10_pupil_45
noncomputable def f_X10_pupil_30 (M : mm_M) (v0 : Option Nat) (v1 : Int32) : Option (Int32 × mm_M) :=
  (mm_fR M v0 11 10).bind fun x31 =>
  (mm_aI M x31 12 v1).bind fun x35 =>
  f_X10_pupil_45 M x35
set_option maxRecDepth 20000 in
theorem w_X10_pupil_30 {g : mm_c} (C : mm_ok g cX10_pupil "LessonCardsModel" (some .int) "pupil" 5 4 94 0 0) {M : mm_M} {v0 : Option Nat} {v1 : Int32} {res : Int32 × mm_M} (hf : f_X10_pupil_30 M v0 v1 = some res) (ko : (fun z => mm_q g 0 0 (some (mm_i z.1)) z.2) res) : mm_X g 0 0 M 30 [(0, mm_r v0), (1, mm_i v1)] [] := by
  unfold f_X10_pupil_30 at hf
  refine xr_aload_n 31 0 C dX10_pupil_30 rfl rfl rfl ?_
  obtain ⟨x31, h31, hf⟩ := mm_bd_e hf
  refine xr_getR 34 C cf_X10_35 rfl h31 dX10_pupil_31 rfl ?_
  refine xr_iload_n 35 1 C dX10_pupil_34 rfl rfl rfl ?_
  obtain ⟨x35, h35, hf⟩ := mm_bd_e hf
  refine xr_aldI 36 C h35 dX10_pupil_35 rfl ?_
  refine xr_goto 45 C dX10_pupil_36 (by decide) ?_
  refine xr_sub [] (lv2 := []) rfl ?_
  exact w_X10_pupil_45 C hf ko
noncomputable def f_X10_pupil_39 (M : mm_M) (v0 : Option Nat) (v1 : Int32) : Option (Int32 × mm_M) :=
  (mm_fR M v0 11 8).bind fun x40 =>
  (mm_aI M x40 12 v1).bind fun x44 =>
  f_X10_pupil_45 M x44
set_option maxRecDepth 20000 in
theorem w_X10_pupil_39 {g : mm_c} (C : mm_ok g cX10_pupil "LessonCardsModel" (some .int) "pupil" 5 4 94 0 0) {M : mm_M} {v0 : Option Nat} {v1 : Int32} {res : Int32 × mm_M} (hf : f_X10_pupil_39 M v0 v1 = some res) (ko : (fun z => mm_q g 0 0 (some (mm_i z.1)) z.2) res) : mm_X g 0 0 M 39 [(0, mm_r v0), (1, mm_i v1)] [] := by
  unfold f_X10_pupil_39 at hf
  refine xr_aload_n 40 0 C dX10_pupil_39 rfl rfl rfl ?_
  obtain ⟨x40, h40, hf⟩ := mm_bd_e hf
  refine xr_getR 43 C cf_X10_29 rfl h40 dX10_pupil_40 rfl ?_
  refine xr_iload_n 44 1 C dX10_pupil_43 rfl rfl rfl ?_
  obtain ⟨x44, h44, hf⟩ := mm_bd_e hf
  refine xr_aldI 45 C h44 dX10_pupil_44 rfl ?_
  refine xr_sub [] (lv2 := []) rfl ?_
  exact w_X10_pupil_45 C hf ko
noncomputable def f_X10_pupil_25 (M : mm_M) (v0 : Option Nat) (v1 : Int32) (v2 : Int32) : Option (Int32 × mm_M) :=
  if v2 = 4 then f_X10_pupil_30 M v0 v1 else f_X10_pupil_39 M v0 v1
set_option maxRecDepth 20000 in
theorem w_X10_pupil_25 {g : mm_c} (C : mm_ok g cX10_pupil "LessonCardsModel" (some .int) "pupil" 5 4 94 0 0) {M : mm_M} {v0 : Option Nat} {v1 : Int32} {v2 : Int32} {res : Int32 × mm_M} (hf : f_X10_pupil_25 M v0 v1 v2 = some res) (ko : (fun z => mm_q g 0 0 (some (mm_i z.1)) z.2) res) : mm_X g 0 0 M 25 [(0, mm_r v0), (1, mm_i v1), (2, mm_i v2)] [] := by
  unfold f_X10_pupil_25 at hf
  refine xr_iload_n 26 2 C dX10_pupil_25 rfl rfl rfl ?_
  refine xr_iconst 27 C (v := 4) dX10_pupil_26 (by decide) rfl ?_
  refine xr_icmp_ne 39 30 C dX10_pupil_27 (by decide) rfl (fun hc => ?_) (fun hc => ?_)
  · replace hf := (if_neg hc).symm.trans hf
    refine xr_sub [0, 1] (lv2 := [(0, mm_r v0), (1, mm_i v1)]) rfl ?_
    exact w_X10_pupil_39 C hf ko
  · replace hf := (if_pos hc).symm.trans hf
    refine xr_sub [0, 1] (lv2 := [(0, mm_r v0), (1, mm_i v1)]) rfl ?_
    exact w_X10_pupil_30 C hf ko
noncomputable def f_X10_pupil_50 (M : mm_M) (v0 : Option Nat) (v1 : Int32) (v2 : Int32) : Option (Int32 × mm_M) :=
  (mm_rc M v0 11).bind fun u53 =>
  mm_b2 (f_X10_sidesThat M v0 v1 v2) fun x53 M53 =>
  some (x53, M53)
set_option maxRecDepth 20000 in
theorem w_X10_pupil_50 {g : mm_c} (C : mm_ok g cX10_pupil "LessonCardsModel" (some .int) "pupil" 5 4 94 0 0) {M : mm_M} {v0 : Option Nat} {v1 : Int32} {v2 : Int32} {res : Int32 × mm_M} (hf : f_X10_pupil_50 M v0 v1 v2 = some res) (ko : (fun z => mm_q g 0 0 (some (mm_i z.1)) z.2) res) : mm_X g 0 0 M 50 [(0, mm_r v0), (1, mm_i v1), (2, mm_i v2)] [] := by
  unfold f_X10_pupil_50 at hf
  refine xr_aload_n 51 0 C dX10_pupil_50 rfl rfl rfl ?_
  refine xr_iload_n 52 1 C dX10_pupil_51 rfl rfl rfl ?_
  refine xr_iload_n 53 2 C dX10_pupil_52 rfl rfl rfl ?_
  obtain ⟨u53, g53, hf⟩ := mm_bd_e hf
  obtain ⟨x53, M53, h53, hf⟩ := mm_b2_e hf
  refine xr_callV 56 C [mm_i v1, mm_i v2] cm_X10_226 (fun l G cy => c_X10_sidesThat l G cy h53) g53 rfl rfl ⟨⟨Nat.le_of_ble_eq_true rfl, Nat.le_of_ble_eq_true rfl⟩, (Nat.le_of_ble_eq_true rfl), (Nat.le_of_ble_eq_true rfl)⟩ (Nat.le_of_ble_eq_true rfl) dX10_pupil_53 rfl ?_
  obtain rfl := Option.some.inj hf
  exact xr_iret C ko ⟨(Nat.le_of_ble_eq_true rfl), (Nat.le_of_ble_eq_true rfl)⟩ dX10_pupil_56
noncomputable def f_X10_pupil_85 (M : mm_M) (v0 : Option Nat) (v1 : Int32) (v4 : Int32) (s0 : Int32) (s1 : Int32) : Option ((mm_M × Int32 × Int32) ⊕ (Int32 × mm_M)) :=
  some (.inl (M, (s0 + s1), (v4 + 1)))
set_option maxRecDepth 20000 in
theorem w_X10_pupil_85 {g : mm_c} (C : mm_ok g cX10_pupil "LessonCardsModel" (some .int) "pupil" 5 4 94 0 0) {M : mm_M} {v0 : Option Nat} {v1 : Int32} {v4 : Int32} {s0 : Int32} {s1 : Int32} {res : (mm_M × Int32 × Int32) ⊕ (Int32 × mm_M)} (hf : f_X10_pupil_85 M v0 v1 v4 s0 s1 = some res) (ko : (mm_o (h_X10_pupil_60 g v0 v1) (fun z => mm_q g 0 0 (some (mm_i z.1)) z.2)) res) : mm_X g 0 0 M 85 [(0, mm_r v0), (1, mm_i v1), (4, mm_i v4)] [mm_i s1, mm_i s0] := by
  unfold f_X10_pupil_85 at hf
  refine xr_iadd 86 C dX10_pupil_85 rfl ?_
  refine xr_istore_n 87 C dX10_pupil_86 rfl (by decide) rfl [(3, mm_i (s0 + s1)), (0, mm_r v0), (1, mm_i v1), (4, mm_i v4)] rfl ?_
  refine xr_iinc 90 3 C dX10_pupil_87 rfl (by decide) (v := 1) (by decide) rfl [(4, mm_i (v4 + 1)), (3, mm_i (s0 + s1)), (0, mm_r v0), (1, mm_i v1)] rfl ?_
  refine xr_goto 60 C dX10_pupil_90 (by decide) ?_
  refine xr_sub [2, 3, 1, 0] (lv2 := [(0, mm_r v0), (1, mm_i v1), (3, mm_i (s0 + s1)), (4, mm_i (v4 + 1))]) rfl ?_
  obtain rfl := Option.some.inj hf
  exact ko
noncomputable def f_X10_pupil_80 (M : mm_M) (v0 : Option Nat) (v1 : Int32) (v4 : Int32) (s0 : Int32) : Option ((mm_M × Int32 × Int32) ⊕ (Int32 × mm_M)) :=
  f_X10_pupil_85 M v0 v1 v4 s0 1
set_option maxRecDepth 20000 in
theorem w_X10_pupil_80 {g : mm_c} (C : mm_ok g cX10_pupil "LessonCardsModel" (some .int) "pupil" 5 4 94 0 0) {M : mm_M} {v0 : Option Nat} {v1 : Int32} {v4 : Int32} {s0 : Int32} {res : (mm_M × Int32 × Int32) ⊕ (Int32 × mm_M)} (hf : f_X10_pupil_80 M v0 v1 v4 s0 = some res) (ko : (mm_o (h_X10_pupil_60 g v0 v1) (fun z => mm_q g 0 0 (some (mm_i z.1)) z.2)) res) : mm_X g 0 0 M 80 [(0, mm_r v0), (1, mm_i v1), (4, mm_i v4)] [mm_i s0] := by
  unfold f_X10_pupil_80 at hf
  refine xr_iconst 81 C (v := 1) dX10_pupil_80 (by decide) rfl ?_
  refine xr_goto 85 C dX10_pupil_81 (by decide) ?_
  exact w_X10_pupil_85 C hf ko
noncomputable def f_X10_pupil_84 (M : mm_M) (v0 : Option Nat) (v1 : Int32) (v4 : Int32) (s0 : Int32) : Option ((mm_M × Int32 × Int32) ⊕ (Int32 × mm_M)) :=
  f_X10_pupil_85 M v0 v1 v4 s0 0
set_option maxRecDepth 20000 in
theorem w_X10_pupil_84 {g : mm_c} (C : mm_ok g cX10_pupil "LessonCardsModel" (some .int) "pupil" 5 4 94 0 0) {M : mm_M} {v0 : Option Nat} {v1 : Int32} {v4 : Int32} {s0 : Int32} {res : (mm_M × Int32 × Int32) ⊕ (Int32 × mm_M)} (hf : f_X10_pupil_84 M v0 v1 v4 s0 = some res) (ko : (mm_o (h_X10_pupil_60 g v0 v1) (fun z => mm_q g 0 0 (some (mm_i z.1)) z.2)) res) : mm_X g 0 0 M 84 [(0, mm_r v0), (1, mm_i v1), (4, mm_i v4)] [mm_i s0] := by
  unfold f_X10_pupil_84 at hf
  refine xr_iconst 85 C (v := 0) dX10_pupil_84 (by decide) rfl ?_
  exact w_X10_pupil_85 C hf ko
noncomputable def f_X10_pupil_69 (M : mm_M) (v0 : Option Nat) (v1 : Int32) (v3 : Int32) (v4 : Int32) : Option ((mm_M × Int32 × Int32) ⊕ (Int32 × mm_M)) :=
  (mm_rc M v0 11).bind fun u74 =>
  mm_b2 (f_X10_isKnown M v0 v1 v4) fun x74 M74 =>
  if x74 = 0 then f_X10_pupil_84 M74 v0 v1 v4 v3 else f_X10_pupil_80 M74 v0 v1 v4 v3
set_option maxRecDepth 20000 in
theorem w_X10_pupil_69 {g : mm_c} (C : mm_ok g cX10_pupil "LessonCardsModel" (some .int) "pupil" 5 4 94 0 0) {M : mm_M} {v0 : Option Nat} {v1 : Int32} {v3 : Int32} {v4 : Int32} {res : (mm_M × Int32 × Int32) ⊕ (Int32 × mm_M)} (hf : f_X10_pupil_69 M v0 v1 v3 v4 = some res) (ko : (mm_o (h_X10_pupil_60 g v0 v1) (fun z => mm_q g 0 0 (some (mm_i z.1)) z.2)) res) : mm_X g 0 0 M 69 [(0, mm_r v0), (1, mm_i v1), (3, mm_i v3), (4, mm_i v4)] [] := by
  unfold f_X10_pupil_69 at hf
  refine xr_iload_n 70 2 C dX10_pupil_69 rfl rfl rfl ?_
  refine xr_aload_n 71 0 C dX10_pupil_70 rfl rfl rfl ?_
  refine xr_iload_n 72 1 C dX10_pupil_71 rfl rfl rfl ?_
  refine xr_iload 74 3 C dX10_pupil_72 rfl rfl ?_
  obtain ⟨u74, g74, hf⟩ := mm_bd_e hf
  obtain ⟨x74, M74, h74, hf⟩ := mm_b2_e hf
  refine xr_callV 77 C [mm_i v1, mm_i v4] cm_X10_196 (fun l G cy => c_X10_isKnown l G cy h74) g74 rfl rfl ⟨⟨Nat.le_of_ble_eq_true rfl, Nat.le_of_ble_eq_true rfl⟩, (Nat.le_of_ble_eq_true rfl), (Nat.le_of_ble_eq_true rfl)⟩ (Nat.le_of_ble_eq_true rfl) dX10_pupil_74 rfl ?_
  refine xr_if_eq 84 80 C dX10_pupil_77 (by decide) rfl (fun hc => ?_) (fun hc => ?_)
  · replace hf := (if_pos hc).symm.trans hf
    refine xr_sub [0, 1, 3] (lv2 := [(0, mm_r v0), (1, mm_i v1), (4, mm_i v4)]) rfl ?_
    exact w_X10_pupil_84 C hf ko
  · replace hf := (if_neg hc).symm.trans hf
    refine xr_sub [0, 1, 3] (lv2 := [(0, mm_r v0), (1, mm_i v1), (4, mm_i v4)]) rfl ?_
    exact w_X10_pupil_80 C hf ko
noncomputable def f_X10_pupil_93 (M : mm_M) (v3 : Int32) : Option (Int32 × mm_M) :=
  some (v3, M)
set_option maxRecDepth 20000 in
theorem w_X10_pupil_93 {g : mm_c} (C : mm_ok g cX10_pupil "LessonCardsModel" (some .int) "pupil" 5 4 94 0 0) {M : mm_M} {v3 : Int32} {res : Int32 × mm_M} (hf : f_X10_pupil_93 M v3 = some res) (ko : (fun z => mm_q g 0 0 (some (mm_i z.1)) z.2) res) : mm_X g 0 0 M 93 [(3, mm_i v3)] [] := by
  unfold f_X10_pupil_93 at hf
  refine xr_iload_n 94 0 C dX10_pupil_93 rfl rfl rfl ?_
  obtain rfl := Option.some.inj hf
  exact xr_iret C ko ⟨(Nat.le_of_ble_eq_true rfl), (Nat.le_of_ble_eq_true rfl)⟩ dX10_pupil_94
noncomputable def f_X10_pupil_60 (M : mm_M) (v0 : Option Nat) (v1 : Int32) (v3 : Int32) (v4 : Int32) : Option ((mm_M × Int32 × Int32) ⊕ (Int32 × mm_M)) :=
  (mm_fI M v0 11 3).bind fun x63 =>
  if x63 ≤ v4 then mm_mp (f_X10_pupil_93 M v3) else f_X10_pupil_69 M v0 v1 v3 v4
set_option maxRecDepth 20000 in
theorem w_X10_pupil_60 {g : mm_c} (C : mm_ok g cX10_pupil "LessonCardsModel" (some .int) "pupil" 5 4 94 0 0) {M : mm_M} {v0 : Option Nat} {v1 : Int32} {v3 : Int32} {v4 : Int32} {res : (mm_M × Int32 × Int32) ⊕ (Int32 × mm_M)} (hf : f_X10_pupil_60 M v0 v1 v3 v4 = some res) (ko : (mm_o (h_X10_pupil_60 g v0 v1) (fun z => mm_q g 0 0 (some (mm_i z.1)) z.2)) res) : mm_X g 0 0 M 60 [(0, mm_r v0), (1, mm_i v1), (3, mm_i v3), (4, mm_i v4)] [] := by
  unfold f_X10_pupil_60 at hf
  refine xr_iload 62 3 C dX10_pupil_60 rfl rfl ?_
  refine xr_aload_n 63 0 C dX10_pupil_62 rfl rfl rfl ?_
  obtain ⟨x63, h63, hf⟩ := mm_bd_e hf
  refine xr_getI 66 C cf_X10_116 rfl h63 dX10_pupil_63 rfl ?_
  refine xr_icmp_ge 93 69 C dX10_pupil_66 (by decide) rfl (fun hc => ?_) (fun hc => ?_)
  · replace hf := (if_pos hc).symm.trans hf
    refine xr_sub [2] (lv2 := [(3, mm_i v3)]) rfl ?_
    obtain ⟨z, hf2, rfl⟩ := mm_mp_e hf
    clear hf
    have hf := hf2
    clear hf2
    exact w_X10_pupil_93 C hf ko
  · replace hf := (if_neg hc).symm.trans hf
    exact w_X10_pupil_69 C hf ko
noncomputable def f_X10_pupil_60w (M : mm_M) (v0 : Option Nat) (v1 : Int32) (v3 : Int32) (v4 : Int32) : Option (Int32 × mm_M) := mm_w (fun x => f_X10_pupil_60 x.1 v0 v1 x.2.1 x.2.2) (M, v3, v4)
theorem l_X10_pupil_60 {g : mm_c} (C : mm_ok g cX10_pupil "LessonCardsModel" (some .int) "pupil" 5 4 94 0 0) {M : mm_M} {v0 : Option Nat} {v1 : Int32} {v3 : Int32} {v4 : Int32} {res : Int32 × mm_M} (hf : f_X10_pupil_60w M v0 v1 v3 v4 = some res) (ko : (fun z => mm_q g 0 0 (some (mm_i z.1)) z.2) res) : mm_X g 0 0 M 60 [(0, mm_r v0), (1, mm_i v1), (3, mm_i v3), (4, mm_i v4)] [] :=
  mm_w_W (body := fun x => f_X10_pupil_60 x.1 v0 v1 x.2.1 x.2.2) (Wh := h_X10_pupil_60 g v0 v1) (ok := (fun z => mm_q g 0 0 (some (mm_i z.1)) z.2)) (x := (M, v3, v4)) (fun x r hb ho => w_X10_pupil_60 C hb ho) hf ko
noncomputable def f_X10_pupil_57 (M : mm_M) (v0 : Option Nat) (v1 : Int32) (v3 : Int32) : Option (Int32 × mm_M) :=
  f_X10_pupil_60w M v0 v1 v3 0
set_option maxRecDepth 20000 in
theorem w_X10_pupil_57 {g : mm_c} (C : mm_ok g cX10_pupil "LessonCardsModel" (some .int) "pupil" 5 4 94 0 0) {M : mm_M} {v0 : Option Nat} {v1 : Int32} {v3 : Int32} {res : Int32 × mm_M} (hf : f_X10_pupil_57 M v0 v1 v3 = some res) (ko : (fun z => mm_q g 0 0 (some (mm_i z.1)) z.2) res) : mm_X g 0 0 M 57 [(0, mm_r v0), (1, mm_i v1), (3, mm_i v3)] [] := by
  unfold f_X10_pupil_57 at hf
  refine xr_iconst 58 C (v := 0) dX10_pupil_57 (by decide) rfl ?_
  refine xr_istore 60 C dX10_pupil_58 (by decide) rfl [(4, mm_i 0), (0, mm_r v0), (1, mm_i v1), (3, mm_i v3)] rfl ?_
  refine xr_sub [1, 2, 3, 0] (lv2 := [(0, mm_r v0), (1, mm_i v1), (3, mm_i v3), (4, mm_i 0)]) rfl ?_
  exact l_X10_pupil_60 C hf ko
noncomputable def f_X10_pupil_46 (M : mm_M) (v0 : Option Nat) (v1 : Int32) (v2 : Int32) (v3 : Int32) : Option (Int32 × mm_M) :=
  if v2 ≤ 0 then f_X10_pupil_57 M v0 v1 v3 else f_X10_pupil_50 M v0 v1 v2
set_option maxRecDepth 20000 in
theorem w_X10_pupil_46 {g : mm_c} (C : mm_ok g cX10_pupil "LessonCardsModel" (some .int) "pupil" 5 4 94 0 0) {M : mm_M} {v0 : Option Nat} {v1 : Int32} {v2 : Int32} {v3 : Int32} {res : Int32 × mm_M} (hf : f_X10_pupil_46 M v0 v1 v2 v3 = some res) (ko : (fun z => mm_q g 0 0 (some (mm_i z.1)) z.2) res) : mm_X g 0 0 M 46 [(0, mm_r v0), (1, mm_i v1), (2, mm_i v2), (3, mm_i v3)] [] := by
  unfold f_X10_pupil_46 at hf
  refine xr_iload_n 47 2 C dX10_pupil_46 rfl rfl rfl ?_
  refine xr_if_le 57 50 C dX10_pupil_47 (by decide) rfl (fun hc => ?_) (fun hc => ?_)
  · replace hf := (if_pos hc).symm.trans hf
    refine xr_sub [0, 1, 3] (lv2 := [(0, mm_r v0), (1, mm_i v1), (3, mm_i v3)]) rfl ?_
    exact w_X10_pupil_57 C hf ko
  · replace hf := (if_neg hc).symm.trans hf
    refine xr_sub [0, 1, 2] (lv2 := [(0, mm_r v0), (1, mm_i v1), (2, mm_i v2)]) rfl ?_
    exact w_X10_pupil_50 C hf ko
noncomputable def f_X10_pupil_18 (M : mm_M) (v0 : Option Nat) (v1 : Int32) (v2 : Int32) : Option (Int32 × mm_M) :=
  if v2 ≤ 3 then f_X10_pupil_46 M v0 v1 v2 0 else f_X10_pupil_25 M v0 v1 v2
set_option maxRecDepth 20000 in
theorem w_X10_pupil_18 {g : mm_c} (C : mm_ok g cX10_pupil "LessonCardsModel" (some .int) "pupil" 5 4 94 0 0) {M : mm_M} {v0 : Option Nat} {v1 : Int32} {v2 : Int32} {res : Int32 × mm_M} (hf : f_X10_pupil_18 M v0 v1 v2 = some res) (ko : (fun z => mm_q g 0 0 (some (mm_i z.1)) z.2) res) : mm_X g 0 0 M 18 [(0, mm_r v0), (1, mm_i v1), (2, mm_i v2)] [] := by
  unfold f_X10_pupil_18 at hf
  refine xr_iconst 19 C (v := 0) dX10_pupil_18 (by decide) rfl ?_
  refine xr_istore_n 20 C dX10_pupil_19 rfl (by decide) rfl [(3, mm_i 0), (0, mm_r v0), (1, mm_i v1), (2, mm_i v2)] rfl ?_
  refine xr_iload_n 21 3 C dX10_pupil_20 rfl rfl rfl ?_
  refine xr_iconst 22 C (v := 3) dX10_pupil_21 (by decide) rfl ?_
  refine xr_icmp_le 46 25 C dX10_pupil_22 (by decide) rfl (fun hc => ?_) (fun hc => ?_)
  · replace hf := (if_pos hc).symm.trans hf
    refine xr_sub [1, 2, 3, 0] (lv2 := [(0, mm_r v0), (1, mm_i v1), (2, mm_i v2), (3, mm_i 0)]) rfl ?_
    exact w_X10_pupil_46 C hf ko
  · replace hf := (if_neg hc).symm.trans hf
    refine xr_sub [1, 2, 3] (lv2 := [(0, mm_r v0), (1, mm_i v1), (2, mm_i v2)]) rfl ?_
    exact w_X10_pupil_25 C hf ko
noncomputable def f_X10_pupil_7 (M : mm_M) (v0 : Option Nat) (v1 : Int32) (v2 : Int32) : Option (Int32 × mm_M) :=
  (f_X10_within M v2 0 5).bind fun x10 =>
  if x10 = 0 then f_X10_pupil_16 M else f_X10_pupil_18 M v0 v1 v2
set_option maxRecDepth 20000 in
theorem w_X10_pupil_7 {g : mm_c} (C : mm_ok g cX10_pupil "LessonCardsModel" (some .int) "pupil" 5 4 94 0 0) {M : mm_M} {v0 : Option Nat} {v1 : Int32} {v2 : Int32} {res : Int32 × mm_M} (hf : f_X10_pupil_7 M v0 v1 v2 = some res) (ko : (fun z => mm_q g 0 0 (some (mm_i z.1)) z.2) res) : mm_X g 0 0 M 7 [(0, mm_r v0), (1, mm_i v1), (2, mm_i v2)] [] := by
  unfold f_X10_pupil_7 at hf
  refine xr_iload_n 8 2 C dX10_pupil_7 rfl rfl rfl ?_
  refine xr_iconst 9 C (v := 0) dX10_pupil_8 (by decide) rfl ?_
  refine xr_iconst 10 C (v := 5) dX10_pupil_9 (by decide) rfl ?_
  obtain ⟨x10, h10, hf⟩ := mm_bd_e hf
  refine xr_callS 13 C [mm_i v2, mm_i 0, mm_i 5] cm_X10_123 (fun l G cy => c_X10_within l G cy h10) rfl rfl ⟨⟨Nat.le_of_ble_eq_true rfl, Nat.le_of_ble_eq_true rfl⟩, (Nat.le_of_ble_eq_true rfl), (Nat.le_of_ble_eq_true rfl)⟩ (Nat.le_of_ble_eq_true rfl) dX10_pupil_10 rfl ?_
  refine xr_if_ne 18 16 C dX10_pupil_13 (by decide) rfl (fun hc => ?_) (fun hc => ?_)
  · replace hf := (if_neg hc).symm.trans hf
    exact w_X10_pupil_18 C hf ko
  · replace hf := (if_pos hc).symm.trans hf
    refine xr_sub [] (lv2 := []) rfl ?_
    exact w_X10_pupil_16 C hf ko
noncomputable def f_X10_pupil_0 (M : mm_M) (v0 : Option Nat) (v1 : Int32) (v2 : Int32) : Option (Int32 × mm_M) :=
  (f_X10_isPupil M v1).bind fun x1 =>
  if x1 = 0 then f_X10_pupil_16 M else f_X10_pupil_7 M v0 v1 v2
set_option maxRecDepth 20000 in
theorem w_X10_pupil_0 {g : mm_c} (C : mm_ok g cX10_pupil "LessonCardsModel" (some .int) "pupil" 5 4 94 0 0) {M : mm_M} {v0 : Option Nat} {v1 : Int32} {v2 : Int32} {res : Int32 × mm_M} (hf : f_X10_pupil_0 M v0 v1 v2 = some res) (ko : (fun z => mm_q g 0 0 (some (mm_i z.1)) z.2) res) : mm_X g 0 0 M 0 [(0, mm_r v0), (1, mm_i v1), (2, mm_i v2)] [] := by
  unfold f_X10_pupil_0 at hf
  refine xr_iload_n 1 1 C dX10_pupil_0 rfl rfl rfl ?_
  obtain ⟨x1, h1, hf⟩ := mm_bd_e hf
  refine xr_callS 4 C [mm_i v1] cm_X10_190 (fun l G cy => c_X10_isPupil l G cy h1) rfl rfl ⟨⟨Nat.le_of_ble_eq_true rfl, Nat.le_of_ble_eq_true rfl⟩, (Nat.le_of_ble_eq_true rfl), (Nat.le_of_ble_eq_true rfl)⟩ (Nat.le_of_ble_eq_true rfl) dX10_pupil_1 rfl ?_
  refine xr_if_eq 16 7 C dX10_pupil_4 (by decide) rfl (fun hc => ?_) (fun hc => ?_)
  · replace hf := (if_pos hc).symm.trans hf
    refine xr_sub [] (lv2 := []) rfl ?_
    exact w_X10_pupil_16 C hf ko
  · replace hf := (if_neg hc).symm.trans hf
    exact w_X10_pupil_7 C hf ko
noncomputable def f_X10_pupil (M : mm_M) (v0 : Option Nat) (v1 : Int32) (v2 : Int32) : Option (Int32 × mm_M) := f_X10_pupil_0 M v0 v1 v2
theorem c_X10_pupil (l : Launch) (G : va_G) (cy : Nat → ClassId) {M : mm_M} {v0 : Option Nat} {v1 : Int32} {v2 : Int32} {r : Int32} {M1 : mm_M} (hf : f_X10_pupil M v0 v1 v2 = some (r, M1)) : mm_Met l yX10_pupil cX10_pupil 5 (some .int) 4 94 0 0 G cy [mm_r v0, mm_i v1, mm_i v2] M (some (mm_i r)) M1 :=
  mm_enter (by decide) (Nat.le_of_ble_eq_true rfl) (fun p e R s m args below meth c Q C hq => xr_sub [0, 1, 2] (lv2 := [(0, mm_r v0), (1, mm_i v1), (2, mm_i v2)]) rfl (w_X10_pupil_0 C hf hq))
noncomputable def f_X10_known_33 (M : mm_M) (s0 : Int32) : Option (Int32 × mm_M) :=
  some (s0, M)
set_option maxRecDepth 20000 in
theorem w_X10_known_33 {g : mm_c} (C : mm_ok g cX10_known "LessonCardsModel" (some .int) "known" 3 4 94 0 0) {M : mm_M} {s0 : Int32} {res : Int32 × mm_M} (hf : f_X10_known_33 M s0 = some res) (ko : (fun z => mm_q g 0 0 (some (mm_i z.1)) z.2) res) : mm_X g 0 0 M 33 [] [mm_i s0] := by
  unfold f_X10_known_33 at hf
  obtain rfl := Option.some.inj hf
  exact xr_iret C ko ⟨(Nat.le_of_ble_eq_true rfl), (Nat.le_of_ble_eq_true rfl)⟩ dX10_known_33
noncomputable def f_X10_known_24 (M : mm_M) : Option (Int32 × mm_M) :=
  f_X10_known_33 M 1
set_option maxRecDepth 20000 in
theorem w_X10_known_24 {g : mm_c} (C : mm_ok g cX10_known "LessonCardsModel" (some .int) "known" 3 4 94 0 0) {M : mm_M} {res : Int32 × mm_M} (hf : f_X10_known_24 M = some res) (ko : (fun z => mm_q g 0 0 (some (mm_i z.1)) z.2) res) : mm_X g 0 0 M 24 [] [] := by
  unfold f_X10_known_24 at hf
  refine xr_iconst 25 C (v := 1) dX10_known_24 (by decide) rfl ?_
  refine xr_goto 33 C dX10_known_25 (by decide) ?_
  exact w_X10_known_33 C hf ko
noncomputable def f_X10_known_28 (M : mm_M) : Option (Int32 × mm_M) :=
  f_X10_known_33 M 0
set_option maxRecDepth 20000 in
theorem w_X10_known_28 {g : mm_c} (C : mm_ok g cX10_known "LessonCardsModel" (some .int) "known" 3 4 94 0 0) {M : mm_M} {res : Int32 × mm_M} (hf : f_X10_known_28 M = some res) (ko : (fun z => mm_q g 0 0 (some (mm_i z.1)) z.2) res) : mm_X g 0 0 M 28 [] [] := by
  unfold f_X10_known_28 at hf
  refine xr_iconst 29 C (v := 0) dX10_known_28 (by decide) rfl ?_
  refine xr_goto 33 C dX10_known_29 (by decide) ?_
  exact w_X10_known_33 C hf ko
noncomputable def f_X10_known_15 (M : mm_M) (v0 : Option Nat) (v1 : Int32) (v2 : Int32) : Option (Int32 × mm_M) :=
  (mm_rc M v0 11).bind fun u18 =>
  mm_b2 (f_X10_isKnown M v0 v1 v2) fun x18 M18 =>
  if x18 = 0 then f_X10_known_28 M18 else f_X10_known_24 M18
set_option maxRecDepth 20000 in
theorem w_X10_known_15 {g : mm_c} (C : mm_ok g cX10_known "LessonCardsModel" (some .int) "known" 3 4 94 0 0) {M : mm_M} {v0 : Option Nat} {v1 : Int32} {v2 : Int32} {res : Int32 × mm_M} (hf : f_X10_known_15 M v0 v1 v2 = some res) (ko : (fun z => mm_q g 0 0 (some (mm_i z.1)) z.2) res) : mm_X g 0 0 M 15 [(0, mm_r v0), (1, mm_i v1), (2, mm_i v2)] [] := by
  unfold f_X10_known_15 at hf
  refine xr_aload_n 16 0 C dX10_known_15 rfl rfl rfl ?_
  refine xr_iload_n 17 1 C dX10_known_16 rfl rfl rfl ?_
  refine xr_iload_n 18 2 C dX10_known_17 rfl rfl rfl ?_
  obtain ⟨u18, g18, hf⟩ := mm_bd_e hf
  obtain ⟨x18, M18, h18, hf⟩ := mm_b2_e hf
  refine xr_callV 21 C [mm_i v1, mm_i v2] cm_X10_196 (fun l G cy => c_X10_isKnown l G cy h18) g18 rfl rfl ⟨⟨Nat.le_of_ble_eq_true rfl, Nat.le_of_ble_eq_true rfl⟩, (Nat.le_of_ble_eq_true rfl), (Nat.le_of_ble_eq_true rfl)⟩ (Nat.le_of_ble_eq_true rfl) dX10_known_18 rfl ?_
  refine xr_if_eq 28 24 C dX10_known_21 (by decide) rfl (fun hc => ?_) (fun hc => ?_)
  · replace hf := (if_pos hc).symm.trans hf
    refine xr_sub [] (lv2 := []) rfl ?_
    exact w_X10_known_28 C hf ko
  · replace hf := (if_neg hc).symm.trans hf
    refine xr_sub [] (lv2 := []) rfl ?_
    exact w_X10_known_24 C hf ko
noncomputable def f_X10_known_32 (M : mm_M) : Option (Int32 × mm_M) :=
  f_X10_known_33 M (-1)
set_option maxRecDepth 20000 in
theorem w_X10_known_32 {g : mm_c} (C : mm_ok g cX10_known "LessonCardsModel" (some .int) "known" 3 4 94 0 0) {M : mm_M} {res : Int32 × mm_M} (hf : f_X10_known_32 M = some res) (ko : (fun z => mm_q g 0 0 (some (mm_i z.1)) z.2) res) : mm_X g 0 0 M 32 [] [] := by
  unfold f_X10_known_32 at hf
  refine xr_iconst 33 C (v := (-1)) dX10_known_32 (by decide) rfl ?_
  exact w_X10_known_33 C hf ko
noncomputable def f_X10_known_7 (M : mm_M) (v0 : Option Nat) (v1 : Int32) (v2 : Int32) : Option (Int32 × mm_M) :=
  (mm_rc M v0 11).bind fun u9 =>
  (f_X10_isCard M v0 v2).bind fun x9 =>
  if x9 = 0 then f_X10_known_32 M else f_X10_known_15 M v0 v1 v2
set_option maxRecDepth 20000 in
theorem w_X10_known_7 {g : mm_c} (C : mm_ok g cX10_known "LessonCardsModel" (some .int) "known" 3 4 94 0 0) {M : mm_M} {v0 : Option Nat} {v1 : Int32} {v2 : Int32} {res : Int32 × mm_M} (hf : f_X10_known_7 M v0 v1 v2 = some res) (ko : (fun z => mm_q g 0 0 (some (mm_i z.1)) z.2) res) : mm_X g 0 0 M 7 [(0, mm_r v0), (1, mm_i v1), (2, mm_i v2)] [] := by
  unfold f_X10_known_7 at hf
  refine xr_aload_n 8 0 C dX10_known_7 rfl rfl rfl ?_
  refine xr_iload_n 9 2 C dX10_known_8 rfl rfl rfl ?_
  obtain ⟨u9, g9, hf⟩ := mm_bd_e hf
  obtain ⟨x9, h9, hf⟩ := mm_bd_e hf
  refine xr_callV 12 C [mm_i v2] cm_X10_119 (fun l G cy => c_X10_isCard l G cy h9) g9 rfl rfl ⟨⟨Nat.le_of_ble_eq_true rfl, Nat.le_of_ble_eq_true rfl⟩, (Nat.le_of_ble_eq_true rfl), (Nat.le_of_ble_eq_true rfl)⟩ (Nat.le_of_ble_eq_true rfl) dX10_known_9 rfl ?_
  refine xr_if_eq 32 15 C dX10_known_12 (by decide) rfl (fun hc => ?_) (fun hc => ?_)
  · replace hf := (if_pos hc).symm.trans hf
    refine xr_sub [] (lv2 := []) rfl ?_
    exact w_X10_known_32 C hf ko
  · replace hf := (if_neg hc).symm.trans hf
    exact w_X10_known_15 C hf ko
noncomputable def f_X10_known_0 (M : mm_M) (v0 : Option Nat) (v1 : Int32) (v2 : Int32) : Option (Int32 × mm_M) :=
  (f_X10_isPupil M v1).bind fun x1 =>
  if x1 = 0 then f_X10_known_32 M else f_X10_known_7 M v0 v1 v2
set_option maxRecDepth 20000 in
theorem w_X10_known_0 {g : mm_c} (C : mm_ok g cX10_known "LessonCardsModel" (some .int) "known" 3 4 94 0 0) {M : mm_M} {v0 : Option Nat} {v1 : Int32} {v2 : Int32} {res : Int32 × mm_M} (hf : f_X10_known_0 M v0 v1 v2 = some res) (ko : (fun z => mm_q g 0 0 (some (mm_i z.1)) z.2) res) : mm_X g 0 0 M 0 [(0, mm_r v0), (1, mm_i v1), (2, mm_i v2)] [] := by
  unfold f_X10_known_0 at hf
  refine xr_iload_n 1 1 C dX10_known_0 rfl rfl rfl ?_
  obtain ⟨x1, h1, hf⟩ := mm_bd_e hf
  refine xr_callS 4 C [mm_i v1] cm_X10_190 (fun l G cy => c_X10_isPupil l G cy h1) rfl rfl ⟨⟨Nat.le_of_ble_eq_true rfl, Nat.le_of_ble_eq_true rfl⟩, (Nat.le_of_ble_eq_true rfl), (Nat.le_of_ble_eq_true rfl)⟩ (Nat.le_of_ble_eq_true rfl) dX10_known_1 rfl ?_
  refine xr_if_eq 32 7 C dX10_known_4 (by decide) rfl (fun hc => ?_) (fun hc => ?_)
  · replace hf := (if_pos hc).symm.trans hf
    refine xr_sub [] (lv2 := []) rfl ?_
    exact w_X10_known_32 C hf ko
  · replace hf := (if_neg hc).symm.trans hf
    exact w_X10_known_7 C hf ko
noncomputable def f_X10_known (M : mm_M) (v0 : Option Nat) (v1 : Int32) (v2 : Int32) : Option (Int32 × mm_M) := f_X10_known_0 M v0 v1 v2
theorem c_X10_known (l : Launch) (G : va_G) (cy : Nat → ClassId) {M : mm_M} {v0 : Option Nat} {v1 : Int32} {v2 : Int32} {r : Int32} {M1 : mm_M} (hf : f_X10_known M v0 v1 v2 = some (r, M1)) : mm_Met l yX10_known cX10_known 3 (some .int) 4 94 0 0 G cy [mm_r v0, mm_i v1, mm_i v2] M (some (mm_i r)) M1 :=
  mm_enter (by decide) (Nat.le_of_ble_eq_true rfl) (fun p e R s m args below meth c Q C hq => xr_sub [0, 1, 2] (lv2 := [(0, mm_r v0), (1, mm_i v1), (2, mm_i v2)]) rfl (w_X10_known_0 C hf hq))
def h_X10_mean_16 (g : mm_c) (v0 : Option Nat) (v1 : Int32) (v2 : Int32) : (mm_M × Int32 × Int32) → Prop := fun x => mm_X g 0 0 x.1 16 [(0, mm_r v0), (1, mm_i v1), (2, mm_i v2), (3, mm_i x.2.1), (4, mm_i x.2.2)] []
noncomputable def f_X10_mean_9 (M : mm_M) : Option (Int32 × mm_M) :=
  some ((-1), M)
set_option maxRecDepth 20000 in
theorem w_X10_mean_9 {g : mm_c} (C : mm_ok g cX10_mean "LessonCardsModel" (some .int) "mean" 5 4 95 0 0) {M : mm_M} {res : Int32 × mm_M} (hf : f_X10_mean_9 M = some res) (ko : (fun z => mm_q g 0 0 (some (mm_i z.1)) z.2) res) : mm_X g 0 0 M 9 [] [] := by
  unfold f_X10_mean_9 at hf
  refine xr_iconst 10 C (v := (-1)) dX10_mean_9 (by decide) rfl ?_
  obtain rfl := Option.some.inj hf
  exact xr_iret C ko ⟨(Nat.le_of_ble_eq_true rfl), (Nat.le_of_ble_eq_true rfl)⟩ dX10_mean_10
noncomputable def f_X10_mean_22 (M : mm_M) (v0 : Option Nat) (v1 : Int32) (v2 : Int32) (v3 : Int32) (v4 : Int32) : Option ((mm_M × Int32 × Int32) ⊕ (Int32 × mm_M)) :=
  (mm_rc M v0 11).bind fun u29 =>
  mm_b2 (f_X10_memory M v0 v4 v1 v2 5) fun x29 M29 =>
  some (.inl (M29, (v3 + x29), (v4 + 1)))
set_option maxRecDepth 20000 in
theorem w_X10_mean_22 {g : mm_c} (C : mm_ok g cX10_mean "LessonCardsModel" (some .int) "mean" 5 4 95 0 0) {M : mm_M} {v0 : Option Nat} {v1 : Int32} {v2 : Int32} {v3 : Int32} {v4 : Int32} {res : (mm_M × Int32 × Int32) ⊕ (Int32 × mm_M)} (hf : f_X10_mean_22 M v0 v1 v2 v3 v4 = some res) (ko : (mm_o (h_X10_mean_16 g v0 v1 v2) (fun z => mm_q g 0 0 (some (mm_i z.1)) z.2)) res) : mm_X g 0 0 M 22 [(0, mm_r v0), (1, mm_i v1), (2, mm_i v2), (3, mm_i v3), (4, mm_i v4)] [] := by
  unfold f_X10_mean_22 at hf
  refine xr_iload_n 23 3 C dX10_mean_22 rfl rfl rfl ?_
  refine xr_aload_n 24 0 C dX10_mean_23 rfl rfl rfl ?_
  refine xr_iload 26 4 C dX10_mean_24 rfl rfl ?_
  refine xr_iload_n 27 1 C dX10_mean_26 rfl rfl rfl ?_
  refine xr_iload_n 28 2 C dX10_mean_27 rfl rfl rfl ?_
  refine xr_iconst 29 C (v := 5) dX10_mean_28 (by decide) rfl ?_
  obtain ⟨u29, g29, hf⟩ := mm_bd_e hf
  obtain ⟨x29, M29, h29, hf⟩ := mm_b2_e hf
  refine xr_callV 32 C [mm_i v4, mm_i v1, mm_i v2, mm_i 5] cm_X10_229 (fun l G cy => c_X10_memory l G cy h29) g29 rfl rfl ⟨⟨Nat.le_of_ble_eq_true rfl, Nat.le_of_ble_eq_true rfl⟩, (Nat.le_of_ble_eq_true rfl), (Nat.le_of_ble_eq_true rfl)⟩ (Nat.le_of_ble_eq_true rfl) dX10_mean_29 rfl ?_
  refine xr_iadd 33 C dX10_mean_32 rfl ?_
  refine xr_istore_n 34 C dX10_mean_33 rfl (by decide) rfl [(3, mm_i (v3 + x29)), (0, mm_r v0), (1, mm_i v1), (2, mm_i v2), (4, mm_i v4)] rfl ?_
  refine xr_iinc 37 4 C dX10_mean_34 rfl (by decide) (v := 1) (by decide) rfl [(4, mm_i (v4 + 1)), (3, mm_i (v3 + x29)), (0, mm_r v0), (1, mm_i v1), (2, mm_i v2)] rfl ?_
  refine xr_goto 16 C dX10_mean_37 (by decide) ?_
  refine xr_sub [2, 3, 4, 1, 0] (lv2 := [(0, mm_r v0), (1, mm_i v1), (2, mm_i v2), (3, mm_i (v3 + x29)), (4, mm_i (v4 + 1))]) rfl ?_
  obtain rfl := Option.some.inj hf
  exact ko
noncomputable def f_X10_mean_40 (M : mm_M) (v3 : Int32) : Option (Int32 × mm_M) :=
  some (v3, M)
set_option maxRecDepth 20000 in
theorem w_X10_mean_40 {g : mm_c} (C : mm_ok g cX10_mean "LessonCardsModel" (some .int) "mean" 5 4 95 0 0) {M : mm_M} {v3 : Int32} {res : Int32 × mm_M} (hf : f_X10_mean_40 M v3 = some res) (ko : (fun z => mm_q g 0 0 (some (mm_i z.1)) z.2) res) : mm_X g 0 0 M 40 [(3, mm_i v3)] [] := by
  unfold f_X10_mean_40 at hf
  refine xr_iload_n 41 0 C dX10_mean_40 rfl rfl rfl ?_
  obtain rfl := Option.some.inj hf
  exact xr_iret C ko ⟨(Nat.le_of_ble_eq_true rfl), (Nat.le_of_ble_eq_true rfl)⟩ dX10_mean_41
noncomputable def f_X10_mean_16 (M : mm_M) (v0 : Option Nat) (v1 : Int32) (v2 : Int32) (v3 : Int32) (v4 : Int32) : Option ((mm_M × Int32 × Int32) ⊕ (Int32 × mm_M)) :=
  if 4 ≤ v4 then mm_mp (f_X10_mean_40 M v3) else f_X10_mean_22 M v0 v1 v2 v3 v4
set_option maxRecDepth 20000 in
theorem w_X10_mean_16 {g : mm_c} (C : mm_ok g cX10_mean "LessonCardsModel" (some .int) "mean" 5 4 95 0 0) {M : mm_M} {v0 : Option Nat} {v1 : Int32} {v2 : Int32} {v3 : Int32} {v4 : Int32} {res : (mm_M × Int32 × Int32) ⊕ (Int32 × mm_M)} (hf : f_X10_mean_16 M v0 v1 v2 v3 v4 = some res) (ko : (mm_o (h_X10_mean_16 g v0 v1 v2) (fun z => mm_q g 0 0 (some (mm_i z.1)) z.2)) res) : mm_X g 0 0 M 16 [(0, mm_r v0), (1, mm_i v1), (2, mm_i v2), (3, mm_i v3), (4, mm_i v4)] [] := by
  unfold f_X10_mean_16 at hf
  refine xr_iload 18 4 C dX10_mean_16 rfl rfl ?_
  refine xr_iconst 19 C (v := 4) dX10_mean_18 (by decide) rfl ?_
  refine xr_icmp_ge 40 22 C dX10_mean_19 (by decide) rfl (fun hc => ?_) (fun hc => ?_)
  · replace hf := (if_pos hc).symm.trans hf
    refine xr_sub [3] (lv2 := [(3, mm_i v3)]) rfl ?_
    obtain ⟨z, hf2, rfl⟩ := mm_mp_e hf
    clear hf
    have hf := hf2
    clear hf2
    exact w_X10_mean_40 C hf ko
  · replace hf := (if_neg hc).symm.trans hf
    exact w_X10_mean_22 C hf ko
noncomputable def f_X10_mean_16w (M : mm_M) (v0 : Option Nat) (v1 : Int32) (v2 : Int32) (v3 : Int32) (v4 : Int32) : Option (Int32 × mm_M) := mm_w (fun x => f_X10_mean_16 x.1 v0 v1 v2 x.2.1 x.2.2) (M, v3, v4)
theorem l_X10_mean_16 {g : mm_c} (C : mm_ok g cX10_mean "LessonCardsModel" (some .int) "mean" 5 4 95 0 0) {M : mm_M} {v0 : Option Nat} {v1 : Int32} {v2 : Int32} {v3 : Int32} {v4 : Int32} {res : Int32 × mm_M} (hf : f_X10_mean_16w M v0 v1 v2 v3 v4 = some res) (ko : (fun z => mm_q g 0 0 (some (mm_i z.1)) z.2) res) : mm_X g 0 0 M 16 [(0, mm_r v0), (1, mm_i v1), (2, mm_i v2), (3, mm_i v3), (4, mm_i v4)] [] :=
  mm_w_W (body := fun x => f_X10_mean_16 x.1 v0 v1 v2 x.2.1 x.2.2) (Wh := h_X10_mean_16 g v0 v1 v2) (ok := (fun z => mm_q g 0 0 (some (mm_i z.1)) z.2)) (x := (M, v3, v4)) (fun x r hb ho => w_X10_mean_16 C hb ho) hf ko
noncomputable def f_X10_mean_11 (M : mm_M) (v0 : Option Nat) (v1 : Int32) (v2 : Int32) : Option (Int32 × mm_M) :=
  f_X10_mean_16w M v0 v1 v2 0 0
set_option maxRecDepth 20000 in
theorem w_X10_mean_11 {g : mm_c} (C : mm_ok g cX10_mean "LessonCardsModel" (some .int) "mean" 5 4 95 0 0) {M : mm_M} {v0 : Option Nat} {v1 : Int32} {v2 : Int32} {res : Int32 × mm_M} (hf : f_X10_mean_11 M v0 v1 v2 = some res) (ko : (fun z => mm_q g 0 0 (some (mm_i z.1)) z.2) res) : mm_X g 0 0 M 11 [(0, mm_r v0), (1, mm_i v1), (2, mm_i v2)] [] := by
  unfold f_X10_mean_11 at hf
  refine xr_iconst 12 C (v := 0) dX10_mean_11 (by decide) rfl ?_
  refine xr_istore_n 13 C dX10_mean_12 rfl (by decide) rfl [(3, mm_i 0), (0, mm_r v0), (1, mm_i v1), (2, mm_i v2)] rfl ?_
  refine xr_iconst 14 C (v := 0) dX10_mean_13 (by decide) rfl ?_
  refine xr_istore 16 C dX10_mean_14 (by decide) rfl [(4, mm_i 0), (3, mm_i 0), (0, mm_r v0), (1, mm_i v1), (2, mm_i v2)] rfl ?_
  refine xr_sub [2, 3, 4, 1, 0] (lv2 := [(0, mm_r v0), (1, mm_i v1), (2, mm_i v2), (3, mm_i 0), (4, mm_i 0)]) rfl ?_
  exact l_X10_mean_16 C hf ko
noncomputable def f_X10_mean_0 (M : mm_M) (v0 : Option Nat) (v1 : Int32) (v2 : Int32) : Option (Int32 × mm_M) :=
  (mm_rc M v0 11).bind fun u3 =>
  (f_X10_isSide M v0 v1 v2).bind fun x3 =>
  if x3 = 0 then f_X10_mean_9 M else f_X10_mean_11 M v0 v1 v2
set_option maxRecDepth 20000 in
theorem w_X10_mean_0 {g : mm_c} (C : mm_ok g cX10_mean "LessonCardsModel" (some .int) "mean" 5 4 95 0 0) {M : mm_M} {v0 : Option Nat} {v1 : Int32} {v2 : Int32} {res : Int32 × mm_M} (hf : f_X10_mean_0 M v0 v1 v2 = some res) (ko : (fun z => mm_q g 0 0 (some (mm_i z.1)) z.2) res) : mm_X g 0 0 M 0 [(0, mm_r v0), (1, mm_i v1), (2, mm_i v2)] [] := by
  unfold f_X10_mean_0 at hf
  refine xr_aload_n 1 0 C dX10_mean_0 rfl rfl rfl ?_
  refine xr_iload_n 2 1 C dX10_mean_1 rfl rfl rfl ?_
  refine xr_iload_n 3 2 C dX10_mean_2 rfl rfl rfl ?_
  obtain ⟨u3, g3, hf⟩ := mm_bd_e hf
  obtain ⟨x3, h3, hf⟩ := mm_bd_e hf
  refine xr_callV 6 C [mm_i v1, mm_i v2] cm_X10_220 (fun l G cy => c_X10_isSide l G cy h3) g3 rfl rfl ⟨⟨Nat.le_of_ble_eq_true rfl, Nat.le_of_ble_eq_true rfl⟩, (Nat.le_of_ble_eq_true rfl), (Nat.le_of_ble_eq_true rfl)⟩ (Nat.le_of_ble_eq_true rfl) dX10_mean_3 rfl ?_
  refine xr_if_ne 11 9 C dX10_mean_6 (by decide) rfl (fun hc => ?_) (fun hc => ?_)
  · replace hf := (if_neg hc).symm.trans hf
    exact w_X10_mean_11 C hf ko
  · replace hf := (if_pos hc).symm.trans hf
    refine xr_sub [] (lv2 := []) rfl ?_
    exact w_X10_mean_9 C hf ko
noncomputable def f_X10_mean (M : mm_M) (v0 : Option Nat) (v1 : Int32) (v2 : Int32) : Option (Int32 × mm_M) := f_X10_mean_0 M v0 v1 v2
theorem c_X10_mean (l : Launch) (G : va_G) (cy : Nat → ClassId) {M : mm_M} {v0 : Option Nat} {v1 : Int32} {v2 : Int32} {r : Int32} {M1 : mm_M} (hf : f_X10_mean M v0 v1 v2 = some (r, M1)) : mm_Met l yX10_mean cX10_mean 5 (some .int) 4 95 0 0 G cy [mm_r v0, mm_i v1, mm_i v2] M (some (mm_i r)) M1 :=
  mm_enter (by decide) (Nat.le_of_ble_eq_true rfl) (fun p e R s m args below meth c Q C hq => xr_sub [0, 1, 2] (lv2 := [(0, mm_r v0), (1, mm_i v1), (2, mm_i v2)]) rfl (w_X10_mean_0 C hf hq))
def h_X10_plan_153 (g : mm_c) (v0 : Option Nat) (v1 : Int32) (v2 : Int32) (v3 : Option Nat) (v5 : Int32) (v6 : Int32) : (mm_M × Int32 × Int32) → Prop := fun x => mm_X g 0 0 x.1 153 [(0, mm_r v0), (1, mm_i v1), (2, mm_i v2), (3, mm_r v3), (4, mm_i x.2.1), (5, mm_i v5), (6, mm_i v6), (7, mm_i x.2.2)] []
def h_X10_plan_250 (g : mm_c) (v0 : Option Nat) (v1 : Int32) (v3 : Option Nat) (v4 : Int32) : (mm_M × Int32) → Prop := fun x => mm_X g 0 0 x.1 250 [(0, mm_r v0), (1, mm_i v1), (3, mm_r v3), (4, mm_i v4), (5, mm_i x.2)] []
def h_X10_plan_130 (g : mm_c) (v0 : Option Nat) (v1 : Int32) (v2 : Int32) (v3 : Option Nat) : (mm_M × Int32 × Int32) → Prop := fun x => mm_X g 0 0 x.1 130 [(0, mm_r v0), (1, mm_i v1), (2, mm_i v2), (3, mm_r v3), (4, mm_i x.2.1), (5, mm_i x.2.2)] []
def h_X10_plan_27 (g : mm_c) (v0 : Option Nat) (v1 : Int32) (v2 : Int32) (v3 : Option Nat) : (mm_M × Int32) → Prop := fun x => mm_X g 0 0 x.1 27 [(0, mm_r v0), (1, mm_i v1), (2, mm_i v2), (3, mm_r v3), (4, mm_i x.2)] []
noncomputable def f_X10_plan_17 (M : mm_M) : Option (Int32 × mm_M) :=
  some ((-1), M)
set_option maxRecDepth 20000 in
theorem w_X10_plan_17 {g : mm_c} (C : mm_ok g cX10_plan "LessonCardsModel" (some .int) "plan" 10 3 76 0 0) {M : mm_M} {res : Int32 × mm_M} (hf : f_X10_plan_17 M = some res) (ko : (fun z => mm_q g 0 0 (some (mm_i z.1)) z.2) res) : mm_X g 0 0 M 17 [] [] := by
  unfold f_X10_plan_17 at hf
  refine xr_iconst 18 C (v := (-1)) dX10_plan_17 (by decide) rfl ?_
  obtain rfl := Option.some.inj hf
  exact xr_iret C ko ⟨(Nat.le_of_ble_eq_true rfl), (Nat.le_of_ble_eq_true rfl)⟩ dX10_plan_18
noncomputable def f_X10_plan_35 (M : mm_M) (v0 : Option Nat) (v1 : Int32) (v2 : Int32) (v3 : Option Nat) (v4 : Int32) : Option ((mm_M × Int32) ⊕ (Int32 × mm_M)) :=
  (mm_fR M v0 11 13).bind fun x51 =>
  (mm_aI M x51 12 ((v1 * 480) + v4)).bind fun x56 =>
  (mm_tI M v3 (5 * v4) x56).bind fun M57 =>
  (mm_fR M57 v0 11 14).bind fun x66 =>
  (mm_aI M57 x66 12 ((v1 * 480) + v4)).bind fun x71 =>
  (mm_tI M57 v3 ((5 * v4) + 1) x71).bind fun M72 =>
  (mm_fR M72 v0 11 15).bind fun x81 =>
  (mm_aI M72 x81 12 ((v1 * 480) + v4)).bind fun x86 =>
  (mm_tI M72 v3 ((5 * v4) + 2) x86).bind fun M87 =>
  (mm_fR M87 v0 11 16).bind fun x96 =>
  (mm_aI M87 x96 12 ((v1 * 480) + v4)).bind fun x101 =>
  (mm_tI M87 v3 ((5 * v4) + 3) x101).bind fun M102 =>
  (mm_fR M102 v0 11 17).bind fun x111 =>
  (mm_aI M102 x111 12 ((v1 * 480) + v4)).bind fun x116 =>
  (mm_tI M102 v3 ((5 * v4) + 4) x116).bind fun M117 =>
  some (.inl (M117, (v4 + 1)))
set_option maxRecDepth 20000 in
theorem w_X10_plan_35 {g : mm_c} (C : mm_ok g cX10_plan "LessonCardsModel" (some .int) "plan" 10 3 76 0 0) {M : mm_M} {v0 : Option Nat} {v1 : Int32} {v2 : Int32} {v3 : Option Nat} {v4 : Int32} {res : (mm_M × Int32) ⊕ (Int32 × mm_M)} (hf : f_X10_plan_35 M v0 v1 v2 v3 v4 = some res) (ko : (mm_o (h_X10_plan_27 g v0 v1 v2 v3) (fun z => mm_q g 0 0 (some (mm_i z.1)) z.2)) res) : mm_X g 0 0 M 35 [(0, mm_r v0), (1, mm_i v1), (2, mm_i v2), (3, mm_r v3), (4, mm_i v4)] [] := by
  unfold f_X10_plan_35 at hf
  refine xr_iload_n 36 1 C dX10_plan_35 rfl rfl rfl ?_
  refine xr_sipush 39 C (v := 480) dX10_plan_36 (by decide) rfl ?_
  refine xr_imul 40 C dX10_plan_39 rfl ?_
  refine xr_iload 42 4 C dX10_plan_40 rfl rfl ?_
  refine xr_iadd 43 C dX10_plan_42 rfl ?_
  refine xr_istore 45 C dX10_plan_43 (by decide) rfl [(5, mm_i ((v1 * 480) + v4)), (0, mm_r v0), (1, mm_i v1), (2, mm_i v2), (3, mm_r v3), (4, mm_i v4)] rfl ?_
  refine xr_aload_n 46 4 C dX10_plan_45 rfl rfl rfl ?_
  refine xr_iconst 47 C (v := 5) dX10_plan_46 (by decide) rfl ?_
  refine xr_iload 49 5 C dX10_plan_47 rfl rfl ?_
  refine xr_imul 50 C dX10_plan_49 rfl ?_
  refine xr_aload_n 51 1 C dX10_plan_50 rfl rfl rfl ?_
  obtain ⟨x51, h51, hf⟩ := mm_bd_e hf
  refine xr_getR 54 C cf_X10_45 rfl h51 dX10_plan_51 rfl ?_
  refine xr_iload 56 0 C dX10_plan_54 rfl rfl ?_
  obtain ⟨x56, h56, hf⟩ := mm_bd_e hf
  refine xr_aldI 57 C h56 dX10_plan_56 rfl ?_
  obtain ⟨M57, h57, hf⟩ := mm_bd_e hf
  refine xr_astI 58 C h57 dX10_plan_57 rfl ?_
  refine xr_aload_n 59 4 C dX10_plan_58 rfl rfl rfl ?_
  refine xr_iconst 60 C (v := 5) dX10_plan_59 (by decide) rfl ?_
  refine xr_iload 62 5 C dX10_plan_60 rfl rfl ?_
  refine xr_imul 63 C dX10_plan_62 rfl ?_
  refine xr_iconst 64 C (v := 1) dX10_plan_63 (by decide) rfl ?_
  refine xr_iadd 65 C dX10_plan_64 rfl ?_
  refine xr_aload_n 66 1 C dX10_plan_65 rfl rfl rfl ?_
  obtain ⟨x66, h66, hf⟩ := mm_bd_e hf
  refine xr_getR 69 C cf_X10_48 rfl h66 dX10_plan_66 rfl ?_
  refine xr_iload 71 0 C dX10_plan_69 rfl rfl ?_
  obtain ⟨x71, h71, hf⟩ := mm_bd_e hf
  refine xr_aldI 72 C h71 dX10_plan_71 rfl ?_
  obtain ⟨M72, h72, hf⟩ := mm_bd_e hf
  refine xr_astI 73 C h72 dX10_plan_72 rfl ?_
  refine xr_aload_n 74 4 C dX10_plan_73 rfl rfl rfl ?_
  refine xr_iconst 75 C (v := 5) dX10_plan_74 (by decide) rfl ?_
  refine xr_iload 77 5 C dX10_plan_75 rfl rfl ?_
  refine xr_imul 78 C dX10_plan_77 rfl ?_
  refine xr_iconst 79 C (v := 2) dX10_plan_78 (by decide) rfl ?_
  refine xr_iadd 80 C dX10_plan_79 rfl ?_
  refine xr_aload_n 81 1 C dX10_plan_80 rfl rfl rfl ?_
  obtain ⟨x81, h81, hf⟩ := mm_bd_e hf
  refine xr_getR 84 C cf_X10_51 rfl h81 dX10_plan_81 rfl ?_
  refine xr_iload 86 0 C dX10_plan_84 rfl rfl ?_
  obtain ⟨x86, h86, hf⟩ := mm_bd_e hf
  refine xr_aldI 87 C h86 dX10_plan_86 rfl ?_
  obtain ⟨M87, h87, hf⟩ := mm_bd_e hf
  refine xr_astI 88 C h87 dX10_plan_87 rfl ?_
  refine xr_aload_n 89 4 C dX10_plan_88 rfl rfl rfl ?_
  refine xr_iconst 90 C (v := 5) dX10_plan_89 (by decide) rfl ?_
  refine xr_iload 92 5 C dX10_plan_90 rfl rfl ?_
  refine xr_imul 93 C dX10_plan_92 rfl ?_
  refine xr_iconst 94 C (v := 3) dX10_plan_93 (by decide) rfl ?_
  refine xr_iadd 95 C dX10_plan_94 rfl ?_
  refine xr_aload_n 96 1 C dX10_plan_95 rfl rfl rfl ?_
  obtain ⟨x96, h96, hf⟩ := mm_bd_e hf
  refine xr_getR 99 C cf_X10_54 rfl h96 dX10_plan_96 rfl ?_
  refine xr_iload 101 0 C dX10_plan_99 rfl rfl ?_
  obtain ⟨x101, h101, hf⟩ := mm_bd_e hf
  refine xr_aldI 102 C h101 dX10_plan_101 rfl ?_
  obtain ⟨M102, h102, hf⟩ := mm_bd_e hf
  refine xr_astI 103 C h102 dX10_plan_102 rfl ?_
  refine xr_aload_n 104 4 C dX10_plan_103 rfl rfl rfl ?_
  refine xr_iconst 105 C (v := 5) dX10_plan_104 (by decide) rfl ?_
  refine xr_iload 107 5 C dX10_plan_105 rfl rfl ?_
  refine xr_imul 108 C dX10_plan_107 rfl ?_
  refine xr_iconst 109 C (v := 4) dX10_plan_108 (by decide) rfl ?_
  refine xr_iadd 110 C dX10_plan_109 rfl ?_
  refine xr_aload_n 111 1 C dX10_plan_110 rfl rfl rfl ?_
  obtain ⟨x111, h111, hf⟩ := mm_bd_e hf
  refine xr_getR 114 C cf_X10_57 rfl h111 dX10_plan_111 rfl ?_
  refine xr_iload 116 0 C dX10_plan_114 rfl rfl ?_
  obtain ⟨x116, h116, hf⟩ := mm_bd_e hf
  refine xr_aldI 117 C h116 dX10_plan_116 rfl ?_
  obtain ⟨M117, h117, hf⟩ := mm_bd_e hf
  refine xr_astI 118 C h117 dX10_plan_117 rfl ?_
  refine xr_iinc 121 5 C dX10_plan_118 rfl (by decide) (v := 1) (by decide) rfl [(4, mm_i (v4 + 1)), (5, mm_i ((v1 * 480) + v4)), (0, mm_r v0), (1, mm_i v1), (2, mm_i v2), (3, mm_r v3)] rfl ?_
  refine xr_goto 27 C dX10_plan_121 (by decide) ?_
  refine xr_sub [2, 3, 4, 5, 0] (lv2 := [(0, mm_r v0), (1, mm_i v1), (2, mm_i v2), (3, mm_r v3), (4, mm_i (v4 + 1))]) rfl ?_
  obtain rfl := Option.some.inj hf
  exact ko
noncomputable def f_X10_plan_235 (M : mm_M) (v0 : Option Nat) (v1 : Int32) (v2 : Int32) (v3 : Option Nat) (v4 : Int32) (v5 : Int32) (v6 : Int32) (v7 : Int32) : Option ((mm_M × Int32 × Int32) ⊕ ((mm_M × Int32 × Int32) ⊕ (Int32 × mm_M))) :=
  some (.inl (M, v4, (v7 + 1)))
set_option maxRecDepth 20000 in
theorem w_X10_plan_235 {g : mm_c} (C : mm_ok g cX10_plan "LessonCardsModel" (some .int) "plan" 10 3 76 0 0) {M : mm_M} {v0 : Option Nat} {v1 : Int32} {v2 : Int32} {v3 : Option Nat} {v4 : Int32} {v5 : Int32} {v6 : Int32} {v7 : Int32} {res : (mm_M × Int32 × Int32) ⊕ ((mm_M × Int32 × Int32) ⊕ (Int32 × mm_M))} (hf : f_X10_plan_235 M v0 v1 v2 v3 v4 v5 v6 v7 = some res) (ko : (mm_o (h_X10_plan_153 g v0 v1 v2 v3 v5 v6) (mm_o (h_X10_plan_130 g v0 v1 v2 v3) (fun z => mm_q g 0 0 (some (mm_i z.1)) z.2))) res) : mm_X g 0 0 M 235 [(0, mm_r v0), (1, mm_i v1), (2, mm_i v2), (3, mm_r v3), (4, mm_i v4), (5, mm_i v5), (6, mm_i v6), (7, mm_i v7)] [] := by
  unfold f_X10_plan_235 at hf
  refine xr_iinc 238 7 C dX10_plan_235 rfl (by decide) (v := 1) (by decide) rfl [(7, mm_i (v7 + 1)), (0, mm_r v0), (1, mm_i v1), (2, mm_i v2), (3, mm_r v3), (4, mm_i v4), (5, mm_i v5), (6, mm_i v6)] rfl ?_
  refine xr_goto 153 C dX10_plan_238 (by decide) ?_
  refine xr_sub [1, 2, 3, 4, 5, 6, 7, 0] (lv2 := [(0, mm_r v0), (1, mm_i v1), (2, mm_i v2), (3, mm_r v3), (4, mm_i v4), (5, mm_i v5), (6, mm_i v6), (7, mm_i (v7 + 1))]) rfl ?_
  obtain rfl := Option.some.inj hf
  exact ko
noncomputable def f_X10_plan_188 (M : mm_M) (v0 : Option Nat) (v1 : Int32) (v2 : Int32) (v3 : Option Nat) (v4 : Int32) (v5 : Int32) (v6 : Int32) (v7 : Int32) (v8 : Int32) : Option ((mm_M × Int32 × Int32) ⊕ ((mm_M × Int32 × Int32) ⊕ (Int32 × mm_M))) :=
  (mm_rc M v0 11).bind fun u206 =>
  (f_X10_take M v0 (((v1 * 480) + (4 * v7)) + v8)).bind fun M206 =>
  (mm_fI M206 v0 11 4).bind fun x211 =>
  (mm_fR M206 v0 11 5).bind fun x215 =>
  (mm_aI M206 x215 12 2).bind fun x219 =>
  (mm_rc M206 v0 11).bind fun u223 =>
  (f_X10_answerBy M206 v0 x211 x219 2 v6).bind fun M223 =>
  (mm_rc M223 v0 11).bind fun u229 =>
  (f_X10_give M223 v0 (((v1 * 480) + (4 * v7)) + v8)).bind fun M229 =>
  f_X10_plan_235 M229 v0 v1 v2 v3 (v4 + 1) v5 v6 v7
set_option maxRecDepth 20000 in
theorem w_X10_plan_188 {g : mm_c} (C : mm_ok g cX10_plan "LessonCardsModel" (some .int) "plan" 10 3 76 0 0) {M : mm_M} {v0 : Option Nat} {v1 : Int32} {v2 : Int32} {v3 : Option Nat} {v4 : Int32} {v5 : Int32} {v6 : Int32} {v7 : Int32} {v8 : Int32} {res : (mm_M × Int32 × Int32) ⊕ ((mm_M × Int32 × Int32) ⊕ (Int32 × mm_M))} (hf : f_X10_plan_188 M v0 v1 v2 v3 v4 v5 v6 v7 v8 = some res) (ko : (mm_o (h_X10_plan_153 g v0 v1 v2 v3 v5 v6) (mm_o (h_X10_plan_130 g v0 v1 v2 v3) (fun z => mm_q g 0 0 (some (mm_i z.1)) z.2))) res) : mm_X g 0 0 M 188 [(0, mm_r v0), (1, mm_i v1), (2, mm_i v2), (3, mm_r v3), (4, mm_i v4), (5, mm_i v5), (6, mm_i v6), (7, mm_i v7), (8, mm_i v8)] [] := by
  unfold f_X10_plan_188 at hf
  refine xr_iload_n 189 1 C dX10_plan_188 rfl rfl rfl ?_
  refine xr_sipush 192 C (v := 480) dX10_plan_189 (by decide) rfl ?_
  refine xr_imul 193 C dX10_plan_192 rfl ?_
  refine xr_iconst 194 C (v := 4) dX10_plan_193 (by decide) rfl ?_
  refine xr_iload 196 7 C dX10_plan_194 rfl rfl ?_
  refine xr_imul 197 C dX10_plan_196 rfl ?_
  refine xr_iadd 198 C dX10_plan_197 rfl ?_
  refine xr_iload 200 8 C dX10_plan_198 rfl rfl ?_
  refine xr_iadd 201 C dX10_plan_200 rfl ?_
  refine xr_istore 203 C dX10_plan_201 (by decide) rfl [(9, mm_i (((v1 * 480) + (4 * v7)) + v8)), (0, mm_r v0), (1, mm_i v1), (2, mm_i v2), (3, mm_r v3), (4, mm_i v4), (5, mm_i v5), (6, mm_i v6), (7, mm_i v7), (8, mm_i v8)] rfl ?_
  refine xr_aload_n 204 1 C dX10_plan_203 rfl rfl rfl ?_
  refine xr_iload 206 0 C dX10_plan_204 rfl rfl ?_
  obtain ⟨u206, g206, hf⟩ := mm_bd_e hf
  obtain ⟨M206, h206, hf⟩ := mm_bd_e hf
  refine xr_callV 209 C [mm_i (((v1 * 480) + (4 * v7)) + v8)] cm_X10_180 (fun l G cy => c_X10_take l G cy h206) g206 rfl rfl ⟨⟨Nat.le_of_ble_eq_true rfl, Nat.le_of_ble_eq_true rfl⟩, (Nat.le_of_ble_eq_true rfl), (Nat.le_of_ble_eq_true rfl)⟩ (Nat.le_of_ble_eq_true rfl) dX10_plan_206 rfl ?_
  refine xr_aload_n 210 1 C dX10_plan_209 rfl rfl rfl ?_
  refine xr_aload_n 211 1 C dX10_plan_210 rfl rfl rfl ?_
  obtain ⟨x211, h211, hf⟩ := mm_bd_e hf
  refine xr_getI 214 C cf_X10_131 rfl h211 dX10_plan_211 rfl ?_
  refine xr_aload_n 215 1 C dX10_plan_214 rfl rfl rfl ?_
  obtain ⟨x215, h215, hf⟩ := mm_bd_e hf
  refine xr_getR 218 C cf_X10_19 rfl h215 dX10_plan_215 rfl ?_
  refine xr_iconst 219 C (v := 2) dX10_plan_218 (by decide) rfl ?_
  obtain ⟨x219, h219, hf⟩ := mm_bd_e hf
  refine xr_aldI 220 C h219 dX10_plan_219 rfl ?_
  refine xr_iconst 221 C (v := 2) dX10_plan_220 (by decide) rfl ?_
  refine xr_iload 223 7 C dX10_plan_221 rfl rfl ?_
  obtain ⟨u223, g223, hf⟩ := mm_bd_e hf
  obtain ⟨M223, h223, hf⟩ := mm_bd_e hf
  refine xr_callV 226 C [mm_i x211, mm_i x219, mm_i 2, mm_i v6] cm_X10_210 (fun l G cy => c_X10_answerBy l G cy h223) g223 rfl rfl ⟨⟨Nat.le_of_ble_eq_true rfl, Nat.le_of_ble_eq_true rfl⟩, (Nat.le_of_ble_eq_true rfl), (Nat.le_of_ble_eq_true rfl)⟩ (Nat.le_of_ble_eq_true rfl) dX10_plan_223 rfl ?_
  refine xr_aload_n 227 1 C dX10_plan_226 rfl rfl rfl ?_
  refine xr_iload 229 0 C dX10_plan_227 rfl rfl ?_
  obtain ⟨u229, g229, hf⟩ := mm_bd_e hf
  obtain ⟨M229, h229, hf⟩ := mm_bd_e hf
  refine xr_callV 232 C [mm_i (((v1 * 480) + (4 * v7)) + v8)] cm_X10_214 (fun l G cy => c_X10_give l G cy h229) g229 rfl rfl ⟨⟨Nat.le_of_ble_eq_true rfl, Nat.le_of_ble_eq_true rfl⟩, (Nat.le_of_ble_eq_true rfl), (Nat.le_of_ble_eq_true rfl)⟩ (Nat.le_of_ble_eq_true rfl) dX10_plan_229 rfl ?_
  refine xr_iinc 235 5 C dX10_plan_232 rfl (by decide) (v := 1) (by decide) rfl [(4, mm_i (v4 + 1)), (9, mm_i (((v1 * 480) + (4 * v7)) + v8)), (0, mm_r v0), (1, mm_i v1), (2, mm_i v2), (3, mm_r v3), (5, mm_i v5), (6, mm_i v6), (7, mm_i v7), (8, mm_i v8)] rfl ?_
  refine xr_sub [2, 3, 4, 5, 0, 6, 7, 8] (lv2 := [(0, mm_r v0), (1, mm_i v1), (2, mm_i v2), (3, mm_r v3), (4, mm_i (v4 + 1)), (5, mm_i v5), (6, mm_i v6), (7, mm_i v7)]) rfl ?_
  exact w_X10_plan_235 C hf ko
noncomputable def f_X10_plan_178 (M : mm_M) (v0 : Option Nat) (v1 : Int32) (v2 : Int32) (v3 : Option Nat) (v4 : Int32) (v5 : Int32) (v6 : Int32) (v7 : Int32) (s0 : Option Nat) (s1 : Int32) (s2 : Int32) (s3 : Int32) (s4 : Int32) : Option ((mm_M × Int32 × Int32) ⊕ ((mm_M × Int32 × Int32) ⊕ (Int32 × mm_M))) :=
  (mm_rc M s0 11).bind fun u178 =>
  mm_b2 (f_X10_dueSide M s0 s1 s2 s3 s4) fun x178 M178 =>
  if x178 < 0 then f_X10_plan_235 M178 v0 v1 v2 v3 v4 v5 v6 v7 else f_X10_plan_188 M178 v0 v1 v2 v3 v4 v5 v6 v7 x178
set_option maxRecDepth 20000 in
theorem w_X10_plan_178 {g : mm_c} (C : mm_ok g cX10_plan "LessonCardsModel" (some .int) "plan" 10 3 76 0 0) {M : mm_M} {v0 : Option Nat} {v1 : Int32} {v2 : Int32} {v3 : Option Nat} {v4 : Int32} {v5 : Int32} {v6 : Int32} {v7 : Int32} {s0 : Option Nat} {s1 : Int32} {s2 : Int32} {s3 : Int32} {s4 : Int32} {res : (mm_M × Int32 × Int32) ⊕ ((mm_M × Int32 × Int32) ⊕ (Int32 × mm_M))} (hf : f_X10_plan_178 M v0 v1 v2 v3 v4 v5 v6 v7 s0 s1 s2 s3 s4 = some res) (ko : (mm_o (h_X10_plan_153 g v0 v1 v2 v3 v5 v6) (mm_o (h_X10_plan_130 g v0 v1 v2 v3) (fun z => mm_q g 0 0 (some (mm_i z.1)) z.2))) res) : mm_X g 0 0 M 178 [(0, mm_r v0), (1, mm_i v1), (2, mm_i v2), (3, mm_r v3), (4, mm_i v4), (5, mm_i v5), (6, mm_i v6), (7, mm_i v7)] [mm_i s4, mm_i s3, mm_i s2, mm_i s1, mm_r s0] := by
  unfold f_X10_plan_178 at hf
  obtain ⟨u178, g178, hf⟩ := mm_bd_e hf
  obtain ⟨x178, M178, h178, hf⟩ := mm_b2_e hf
  refine xr_callV 181 C [mm_i s1, mm_i s2, mm_i s3, mm_i s4] cm_X10_199 (fun l G cy => c_X10_dueSide l G cy h178) g178 rfl rfl ⟨⟨Nat.le_of_ble_eq_true rfl, Nat.le_of_ble_eq_true rfl⟩, (Nat.le_of_ble_eq_true rfl), (Nat.le_of_ble_eq_true rfl)⟩ (Nat.le_of_ble_eq_true rfl) dX10_plan_178 rfl ?_
  refine xr_istore 183 C dX10_plan_181 (by decide) rfl [(8, mm_i x178), (0, mm_r v0), (1, mm_i v1), (2, mm_i v2), (3, mm_r v3), (4, mm_i v4), (5, mm_i v5), (6, mm_i v6), (7, mm_i v7)] rfl ?_
  refine xr_iload 185 0 C dX10_plan_183 rfl rfl ?_
  refine xr_if_lt 235 188 C dX10_plan_185 (by decide) rfl (fun hc => ?_) (fun hc => ?_)
  · replace hf := (if_pos hc).symm.trans hf
    refine xr_sub [1, 2, 3, 4, 5, 6, 7, 8] (lv2 := [(0, mm_r v0), (1, mm_i v1), (2, mm_i v2), (3, mm_r v3), (4, mm_i v4), (5, mm_i v5), (6, mm_i v6), (7, mm_i v7)]) rfl ?_
    exact w_X10_plan_235 C hf ko
  · replace hf := (if_neg hc).symm.trans hf
    refine xr_sub [1, 2, 3, 4, 5, 6, 7, 8, 0] (lv2 := [(0, mm_r v0), (1, mm_i v1), (2, mm_i v2), (3, mm_r v3), (4, mm_i v4), (5, mm_i v5), (6, mm_i v6), (7, mm_i v7), (8, mm_i x178)]) rfl ?_
    exact w_X10_plan_188 C hf ko
noncomputable def f_X10_plan_173 (M : mm_M) (v0 : Option Nat) (v1 : Int32) (v2 : Int32) (v3 : Option Nat) (v4 : Int32) (v5 : Int32) (v6 : Int32) (v7 : Int32) (s0 : Option Nat) (s1 : Int32) (s2 : Int32) (s3 : Int32) : Option ((mm_M × Int32 × Int32) ⊕ ((mm_M × Int32 × Int32) ⊕ (Int32 × mm_M))) :=
  f_X10_plan_178 M v0 v1 v2 v3 v4 v5 v6 v7 s0 s1 s2 s3 1
set_option maxRecDepth 20000 in
theorem w_X10_plan_173 {g : mm_c} (C : mm_ok g cX10_plan "LessonCardsModel" (some .int) "plan" 10 3 76 0 0) {M : mm_M} {v0 : Option Nat} {v1 : Int32} {v2 : Int32} {v3 : Option Nat} {v4 : Int32} {v5 : Int32} {v6 : Int32} {v7 : Int32} {s0 : Option Nat} {s1 : Int32} {s2 : Int32} {s3 : Int32} {res : (mm_M × Int32 × Int32) ⊕ ((mm_M × Int32 × Int32) ⊕ (Int32 × mm_M))} (hf : f_X10_plan_173 M v0 v1 v2 v3 v4 v5 v6 v7 s0 s1 s2 s3 = some res) (ko : (mm_o (h_X10_plan_153 g v0 v1 v2 v3 v5 v6) (mm_o (h_X10_plan_130 g v0 v1 v2 v3) (fun z => mm_q g 0 0 (some (mm_i z.1)) z.2))) res) : mm_X g 0 0 M 173 [(0, mm_r v0), (1, mm_i v1), (2, mm_i v2), (3, mm_r v3), (4, mm_i v4), (5, mm_i v5), (6, mm_i v6), (7, mm_i v7)] [mm_i s3, mm_i s2, mm_i s1, mm_r s0] := by
  unfold f_X10_plan_173 at hf
  refine xr_iconst 174 C (v := 1) dX10_plan_173 (by decide) rfl ?_
  refine xr_goto 178 C dX10_plan_174 (by decide) ?_
  exact w_X10_plan_178 C hf ko
noncomputable def f_X10_plan_177 (M : mm_M) (v0 : Option Nat) (v1 : Int32) (v2 : Int32) (v3 : Option Nat) (v4 : Int32) (v5 : Int32) (v6 : Int32) (v7 : Int32) (s0 : Option Nat) (s1 : Int32) (s2 : Int32) (s3 : Int32) : Option ((mm_M × Int32 × Int32) ⊕ ((mm_M × Int32 × Int32) ⊕ (Int32 × mm_M))) :=
  f_X10_plan_178 M v0 v1 v2 v3 v4 v5 v6 v7 s0 s1 s2 s3 0
set_option maxRecDepth 20000 in
theorem w_X10_plan_177 {g : mm_c} (C : mm_ok g cX10_plan "LessonCardsModel" (some .int) "plan" 10 3 76 0 0) {M : mm_M} {v0 : Option Nat} {v1 : Int32} {v2 : Int32} {v3 : Option Nat} {v4 : Int32} {v5 : Int32} {v6 : Int32} {v7 : Int32} {s0 : Option Nat} {s1 : Int32} {s2 : Int32} {s3 : Int32} {res : (mm_M × Int32 × Int32) ⊕ ((mm_M × Int32 × Int32) ⊕ (Int32 × mm_M))} (hf : f_X10_plan_177 M v0 v1 v2 v3 v4 v5 v6 v7 s0 s1 s2 s3 = some res) (ko : (mm_o (h_X10_plan_153 g v0 v1 v2 v3 v5 v6) (mm_o (h_X10_plan_130 g v0 v1 v2 v3) (fun z => mm_q g 0 0 (some (mm_i z.1)) z.2))) res) : mm_X g 0 0 M 177 [(0, mm_r v0), (1, mm_i v1), (2, mm_i v2), (3, mm_r v3), (4, mm_i v4), (5, mm_i v5), (6, mm_i v6), (7, mm_i v7)] [mm_i s3, mm_i s2, mm_i s1, mm_r s0] := by
  unfold f_X10_plan_177 at hf
  refine xr_iconst 178 C (v := 0) dX10_plan_177 (by decide) rfl ?_
  exact w_X10_plan_178 C hf ko
noncomputable def f_X10_plan_162 (M : mm_M) (v0 : Option Nat) (v1 : Int32) (v2 : Int32) (v3 : Option Nat) (v4 : Int32) (v5 : Int32) (v6 : Int32) (v7 : Int32) : Option ((mm_M × Int32 × Int32) ⊕ ((mm_M × Int32 × Int32) ⊕ (Int32 × mm_M))) :=
  if v5 = 0 then f_X10_plan_173 M v0 v1 v2 v3 v4 v5 v6 v7 v0 v1 v7 v6 else f_X10_plan_177 M v0 v1 v2 v3 v4 v5 v6 v7 v0 v1 v7 v6
set_option maxRecDepth 20000 in
theorem w_X10_plan_162 {g : mm_c} (C : mm_ok g cX10_plan "LessonCardsModel" (some .int) "plan" 10 3 76 0 0) {M : mm_M} {v0 : Option Nat} {v1 : Int32} {v2 : Int32} {v3 : Option Nat} {v4 : Int32} {v5 : Int32} {v6 : Int32} {v7 : Int32} {res : (mm_M × Int32 × Int32) ⊕ ((mm_M × Int32 × Int32) ⊕ (Int32 × mm_M))} (hf : f_X10_plan_162 M v0 v1 v2 v3 v4 v5 v6 v7 = some res) (ko : (mm_o (h_X10_plan_153 g v0 v1 v2 v3 v5 v6) (mm_o (h_X10_plan_130 g v0 v1 v2 v3) (fun z => mm_q g 0 0 (some (mm_i z.1)) z.2))) res) : mm_X g 0 0 M 162 [(0, mm_r v0), (1, mm_i v1), (2, mm_i v2), (3, mm_r v3), (4, mm_i v4), (5, mm_i v5), (6, mm_i v6), (7, mm_i v7)] [] := by
  unfold f_X10_plan_162 at hf
  refine xr_aload_n 163 0 C dX10_plan_162 rfl rfl rfl ?_
  refine xr_iload_n 164 1 C dX10_plan_163 rfl rfl rfl ?_
  refine xr_iload 166 7 C dX10_plan_164 rfl rfl ?_
  refine xr_iload 168 6 C dX10_plan_166 rfl rfl ?_
  refine xr_iload 170 5 C dX10_plan_168 rfl rfl ?_
  refine xr_if_ne 177 173 C dX10_plan_170 (by decide) rfl (fun hc => ?_) (fun hc => ?_)
  · replace hf := (if_neg hc).symm.trans hf
    exact w_X10_plan_177 C hf ko
  · replace hf := (if_pos hc).symm.trans hf
    exact w_X10_plan_173 C hf ko
noncomputable def f_X10_plan_241 (M : mm_M) (v0 : Option Nat) (v1 : Int32) (v2 : Int32) (v3 : Option Nat) (v4 : Int32) (v5 : Int32) : Option ((mm_M × Int32 × Int32) ⊕ (Int32 × mm_M)) :=
  some (.inl (M, v4, (v5 + 1)))
set_option maxRecDepth 20000 in
theorem w_X10_plan_241 {g : mm_c} (C : mm_ok g cX10_plan "LessonCardsModel" (some .int) "plan" 10 3 76 0 0) {M : mm_M} {v0 : Option Nat} {v1 : Int32} {v2 : Int32} {v3 : Option Nat} {v4 : Int32} {v5 : Int32} {res : (mm_M × Int32 × Int32) ⊕ (Int32 × mm_M)} (hf : f_X10_plan_241 M v0 v1 v2 v3 v4 v5 = some res) (ko : (mm_o (h_X10_plan_130 g v0 v1 v2 v3) (fun z => mm_q g 0 0 (some (mm_i z.1)) z.2)) res) : mm_X g 0 0 M 241 [(0, mm_r v0), (1, mm_i v1), (2, mm_i v2), (3, mm_r v3), (4, mm_i v4), (5, mm_i v5)] [] := by
  unfold f_X10_plan_241 at hf
  refine xr_iinc 244 5 C dX10_plan_241 rfl (by decide) (v := 1) (by decide) rfl [(5, mm_i (v5 + 1)), (0, mm_r v0), (1, mm_i v1), (2, mm_i v2), (3, mm_r v3), (4, mm_i v4)] rfl ?_
  refine xr_goto 130 C dX10_plan_244 (by decide) ?_
  refine xr_sub [1, 2, 3, 4, 5, 0] (lv2 := [(0, mm_r v0), (1, mm_i v1), (2, mm_i v2), (3, mm_r v3), (4, mm_i v4), (5, mm_i (v5 + 1))]) rfl ?_
  obtain rfl := Option.some.inj hf
  exact ko
noncomputable def f_X10_plan_153 (M : mm_M) (v0 : Option Nat) (v1 : Int32) (v2 : Int32) (v3 : Option Nat) (v4 : Int32) (v5 : Int32) (v6 : Int32) (v7 : Int32) : Option ((mm_M × Int32 × Int32) ⊕ ((mm_M × Int32 × Int32) ⊕ (Int32 × mm_M))) :=
  (mm_fI M v0 11 3).bind fun x156 =>
  if x156 ≤ v7 then mm_mp (f_X10_plan_241 M v0 v1 v2 v3 v4 v5) else f_X10_plan_162 M v0 v1 v2 v3 v4 v5 v6 v7
set_option maxRecDepth 20000 in
theorem w_X10_plan_153 {g : mm_c} (C : mm_ok g cX10_plan "LessonCardsModel" (some .int) "plan" 10 3 76 0 0) {M : mm_M} {v0 : Option Nat} {v1 : Int32} {v2 : Int32} {v3 : Option Nat} {v4 : Int32} {v5 : Int32} {v6 : Int32} {v7 : Int32} {res : (mm_M × Int32 × Int32) ⊕ ((mm_M × Int32 × Int32) ⊕ (Int32 × mm_M))} (hf : f_X10_plan_153 M v0 v1 v2 v3 v4 v5 v6 v7 = some res) (ko : (mm_o (h_X10_plan_153 g v0 v1 v2 v3 v5 v6) (mm_o (h_X10_plan_130 g v0 v1 v2 v3) (fun z => mm_q g 0 0 (some (mm_i z.1)) z.2))) res) : mm_X g 0 0 M 153 [(0, mm_r v0), (1, mm_i v1), (2, mm_i v2), (3, mm_r v3), (4, mm_i v4), (5, mm_i v5), (6, mm_i v6), (7, mm_i v7)] [] := by
  unfold f_X10_plan_153 at hf
  refine xr_iload 155 7 C dX10_plan_153 rfl rfl ?_
  refine xr_aload_n 156 0 C dX10_plan_155 rfl rfl rfl ?_
  obtain ⟨x156, h156, hf⟩ := mm_bd_e hf
  refine xr_getI 159 C cf_X10_116 rfl h156 dX10_plan_156 rfl ?_
  refine xr_icmp_ge 241 162 C dX10_plan_159 (by decide) rfl (fun hc => ?_) (fun hc => ?_)
  · replace hf := (if_pos hc).symm.trans hf
    refine xr_sub [0, 1, 2, 3, 4, 5] (lv2 := [(0, mm_r v0), (1, mm_i v1), (2, mm_i v2), (3, mm_r v3), (4, mm_i v4), (5, mm_i v5)]) rfl ?_
    obtain ⟨z, hf2, rfl⟩ := mm_mp_e hf
    clear hf
    have hf := hf2
    clear hf2
    exact w_X10_plan_241 C hf ko
  · replace hf := (if_neg hc).symm.trans hf
    exact w_X10_plan_162 C hf ko
noncomputable def f_X10_plan_153w (M : mm_M) (v0 : Option Nat) (v1 : Int32) (v2 : Int32) (v3 : Option Nat) (v4 : Int32) (v5 : Int32) (v6 : Int32) (v7 : Int32) : Option ((mm_M × Int32 × Int32) ⊕ (Int32 × mm_M)) := mm_w (fun x => f_X10_plan_153 x.1 v0 v1 v2 v3 x.2.1 v5 v6 x.2.2) (M, v4, v7)
theorem l_X10_plan_153 {g : mm_c} (C : mm_ok g cX10_plan "LessonCardsModel" (some .int) "plan" 10 3 76 0 0) {M : mm_M} {v0 : Option Nat} {v1 : Int32} {v2 : Int32} {v3 : Option Nat} {v4 : Int32} {v5 : Int32} {v6 : Int32} {v7 : Int32} {res : (mm_M × Int32 × Int32) ⊕ (Int32 × mm_M)} (hf : f_X10_plan_153w M v0 v1 v2 v3 v4 v5 v6 v7 = some res) (ko : (mm_o (h_X10_plan_130 g v0 v1 v2 v3) (fun z => mm_q g 0 0 (some (mm_i z.1)) z.2)) res) : mm_X g 0 0 M 153 [(0, mm_r v0), (1, mm_i v1), (2, mm_i v2), (3, mm_r v3), (4, mm_i v4), (5, mm_i v5), (6, mm_i v6), (7, mm_i v7)] [] :=
  mm_w_W (body := fun x => f_X10_plan_153 x.1 v0 v1 v2 v3 x.2.1 v5 v6 x.2.2) (Wh := h_X10_plan_153 g v0 v1 v2 v3 v5 v6) (ok := (mm_o (h_X10_plan_130 g v0 v1 v2 v3) (fun z => mm_q g 0 0 (some (mm_i z.1)) z.2))) (x := (M, v4, v7)) (fun x r hb ho => w_X10_plan_153 C hb ho) hf ko
noncomputable def f_X10_plan_136 (M : mm_M) (v0 : Option Nat) (v1 : Int32) (v2 : Int32) (v3 : Option Nat) (v5 : Int32) : Option ((mm_M × Int32 × Int32) ⊕ (Int32 × mm_M)) :=
  (mm_fR M v0 11 8).bind fun x140 =>
  (mm_aI M x140 12 v1).bind fun x144 =>
  f_X10_plan_153w M v0 v1 v2 v3 0 v5 (x144 + v5) 0
set_option maxRecDepth 20000 in
theorem w_X10_plan_136 {g : mm_c} (C : mm_ok g cX10_plan "LessonCardsModel" (some .int) "plan" 10 3 76 0 0) {M : mm_M} {v0 : Option Nat} {v1 : Int32} {v2 : Int32} {v3 : Option Nat} {v5 : Int32} {res : (mm_M × Int32 × Int32) ⊕ (Int32 × mm_M)} (hf : f_X10_plan_136 M v0 v1 v2 v3 v5 = some res) (ko : (mm_o (h_X10_plan_130 g v0 v1 v2 v3) (fun z => mm_q g 0 0 (some (mm_i z.1)) z.2)) res) : mm_X g 0 0 M 136 [(0, mm_r v0), (1, mm_i v1), (2, mm_i v2), (3, mm_r v3), (5, mm_i v5)] [] := by
  unfold f_X10_plan_136 at hf
  refine xr_iconst 137 C (v := 0) dX10_plan_136 (by decide) rfl ?_
  refine xr_istore 139 C dX10_plan_137 (by decide) rfl [(4, mm_i 0), (0, mm_r v0), (1, mm_i v1), (2, mm_i v2), (3, mm_r v3), (5, mm_i v5)] rfl ?_
  refine xr_aload_n 140 1 C dX10_plan_139 rfl rfl rfl ?_
  obtain ⟨x140, h140, hf⟩ := mm_bd_e hf
  refine xr_getR 143 C cf_X10_29 rfl h140 dX10_plan_140 rfl ?_
  refine xr_iload_n 144 2 C dX10_plan_143 rfl rfl rfl ?_
  obtain ⟨x144, h144, hf⟩ := mm_bd_e hf
  refine xr_aldI 145 C h144 dX10_plan_144 rfl ?_
  refine xr_iload 147 5 C dX10_plan_145 rfl rfl ?_
  refine xr_iadd 148 C dX10_plan_147 rfl ?_
  refine xr_istore 150 C dX10_plan_148 (by decide) rfl [(6, mm_i (x144 + v5)), (4, mm_i 0), (0, mm_r v0), (1, mm_i v1), (2, mm_i v2), (3, mm_r v3), (5, mm_i v5)] rfl ?_
  refine xr_iconst 151 C (v := 0) dX10_plan_150 (by decide) rfl ?_
  refine xr_istore 153 C dX10_plan_151 (by decide) rfl [(7, mm_i 0), (6, mm_i (x144 + v5)), (4, mm_i 0), (0, mm_r v0), (1, mm_i v1), (2, mm_i v2), (3, mm_r v3), (5, mm_i v5)] rfl ?_
  refine xr_sub [3, 4, 5, 6, 2, 7, 1, 0] (lv2 := [(0, mm_r v0), (1, mm_i v1), (2, mm_i v2), (3, mm_r v3), (4, mm_i 0), (5, mm_i v5), (6, mm_i (x144 + v5)), (7, mm_i 0)]) rfl ?_
  exact l_X10_plan_153 C hf ko
noncomputable def f_X10_plan_258 (M : mm_M) (v0 : Option Nat) (v1 : Int32) (v3 : Option Nat) (v4 : Int32) (v5 : Int32) : Option ((mm_M × Int32) ⊕ (Int32 × mm_M)) :=
  (mm_fR M v0 11 13).bind fun x269 =>
  (mm_aI M v3 12 (5 * v5)).bind fun x279 =>
  (mm_tI M x269 ((v1 * 480) + v5) x279).bind fun M280 =>
  (mm_fR M280 v0 11 14).bind fun x282 =>
  (mm_aI M280 v3 12 ((5 * v5) + 1)).bind fun x294 =>
  (mm_tI M280 x282 ((v1 * 480) + v5) x294).bind fun M295 =>
  (mm_fR M295 v0 11 15).bind fun x297 =>
  (mm_aI M295 v3 12 ((5 * v5) + 2)).bind fun x309 =>
  (mm_tI M295 x297 ((v1 * 480) + v5) x309).bind fun M310 =>
  (mm_fR M310 v0 11 16).bind fun x312 =>
  (mm_aI M310 v3 12 ((5 * v5) + 3)).bind fun x324 =>
  (mm_tI M310 x312 ((v1 * 480) + v5) x324).bind fun M325 =>
  (mm_fR M325 v0 11 17).bind fun x327 =>
  (mm_aI M325 v3 12 ((5 * v5) + 4)).bind fun x339 =>
  (mm_tI M325 x327 ((v1 * 480) + v5) x339).bind fun M340 =>
  some (.inl (M340, (v5 + 1)))
set_option maxRecDepth 20000 in
theorem w_X10_plan_258 {g : mm_c} (C : mm_ok g cX10_plan "LessonCardsModel" (some .int) "plan" 10 3 76 0 0) {M : mm_M} {v0 : Option Nat} {v1 : Int32} {v3 : Option Nat} {v4 : Int32} {v5 : Int32} {res : (mm_M × Int32) ⊕ (Int32 × mm_M)} (hf : f_X10_plan_258 M v0 v1 v3 v4 v5 = some res) (ko : (mm_o (h_X10_plan_250 g v0 v1 v3 v4) (fun z => mm_q g 0 0 (some (mm_i z.1)) z.2)) res) : mm_X g 0 0 M 258 [(0, mm_r v0), (1, mm_i v1), (3, mm_r v3), (4, mm_i v4), (5, mm_i v5)] [] := by
  unfold f_X10_plan_258 at hf
  refine xr_iload_n 259 1 C dX10_plan_258 rfl rfl rfl ?_
  refine xr_sipush 262 C (v := 480) dX10_plan_259 (by decide) rfl ?_
  refine xr_imul 263 C dX10_plan_262 rfl ?_
  refine xr_iload 265 4 C dX10_plan_263 rfl rfl ?_
  refine xr_iadd 266 C dX10_plan_265 rfl ?_
  refine xr_istore 268 C dX10_plan_266 (by decide) rfl [(6, mm_i ((v1 * 480) + v5)), (0, mm_r v0), (1, mm_i v1), (3, mm_r v3), (4, mm_i v4), (5, mm_i v5)] rfl ?_
  refine xr_aload_n 269 1 C dX10_plan_268 rfl rfl rfl ?_
  obtain ⟨x269, h269, hf⟩ := mm_bd_e hf
  refine xr_getR 272 C cf_X10_45 rfl h269 dX10_plan_269 rfl ?_
  refine xr_iload 274 0 C dX10_plan_272 rfl rfl ?_
  refine xr_aload_n 275 3 C dX10_plan_274 rfl rfl rfl ?_
  refine xr_iconst 276 C (v := 5) dX10_plan_275 (by decide) rfl ?_
  refine xr_iload 278 5 C dX10_plan_276 rfl rfl ?_
  refine xr_imul 279 C dX10_plan_278 rfl ?_
  obtain ⟨x279, h279, hf⟩ := mm_bd_e hf
  refine xr_aldI 280 C h279 dX10_plan_279 rfl ?_
  obtain ⟨M280, h280, hf⟩ := mm_bd_e hf
  refine xr_astI 281 C h280 dX10_plan_280 rfl ?_
  refine xr_aload_n 282 1 C dX10_plan_281 rfl rfl rfl ?_
  obtain ⟨x282, h282, hf⟩ := mm_bd_e hf
  refine xr_getR 285 C cf_X10_48 rfl h282 dX10_plan_282 rfl ?_
  refine xr_iload 287 0 C dX10_plan_285 rfl rfl ?_
  refine xr_aload_n 288 3 C dX10_plan_287 rfl rfl rfl ?_
  refine xr_iconst 289 C (v := 5) dX10_plan_288 (by decide) rfl ?_
  refine xr_iload 291 5 C dX10_plan_289 rfl rfl ?_
  refine xr_imul 292 C dX10_plan_291 rfl ?_
  refine xr_iconst 293 C (v := 1) dX10_plan_292 (by decide) rfl ?_
  refine xr_iadd 294 C dX10_plan_293 rfl ?_
  obtain ⟨x294, h294, hf⟩ := mm_bd_e hf
  refine xr_aldI 295 C h294 dX10_plan_294 rfl ?_
  obtain ⟨M295, h295, hf⟩ := mm_bd_e hf
  refine xr_astI 296 C h295 dX10_plan_295 rfl ?_
  refine xr_aload_n 297 1 C dX10_plan_296 rfl rfl rfl ?_
  obtain ⟨x297, h297, hf⟩ := mm_bd_e hf
  refine xr_getR 300 C cf_X10_51 rfl h297 dX10_plan_297 rfl ?_
  refine xr_iload 302 0 C dX10_plan_300 rfl rfl ?_
  refine xr_aload_n 303 3 C dX10_plan_302 rfl rfl rfl ?_
  refine xr_iconst 304 C (v := 5) dX10_plan_303 (by decide) rfl ?_
  refine xr_iload 306 5 C dX10_plan_304 rfl rfl ?_
  refine xr_imul 307 C dX10_plan_306 rfl ?_
  refine xr_iconst 308 C (v := 2) dX10_plan_307 (by decide) rfl ?_
  refine xr_iadd 309 C dX10_plan_308 rfl ?_
  obtain ⟨x309, h309, hf⟩ := mm_bd_e hf
  refine xr_aldI 310 C h309 dX10_plan_309 rfl ?_
  obtain ⟨M310, h310, hf⟩ := mm_bd_e hf
  refine xr_astI 311 C h310 dX10_plan_310 rfl ?_
  refine xr_aload_n 312 1 C dX10_plan_311 rfl rfl rfl ?_
  obtain ⟨x312, h312, hf⟩ := mm_bd_e hf
  refine xr_getR 315 C cf_X10_54 rfl h312 dX10_plan_312 rfl ?_
  refine xr_iload 317 0 C dX10_plan_315 rfl rfl ?_
  refine xr_aload_n 318 3 C dX10_plan_317 rfl rfl rfl ?_
  refine xr_iconst 319 C (v := 5) dX10_plan_318 (by decide) rfl ?_
  refine xr_iload 321 5 C dX10_plan_319 rfl rfl ?_
  refine xr_imul 322 C dX10_plan_321 rfl ?_
  refine xr_iconst 323 C (v := 3) dX10_plan_322 (by decide) rfl ?_
  refine xr_iadd 324 C dX10_plan_323 rfl ?_
  obtain ⟨x324, h324, hf⟩ := mm_bd_e hf
  refine xr_aldI 325 C h324 dX10_plan_324 rfl ?_
  obtain ⟨M325, h325, hf⟩ := mm_bd_e hf
  refine xr_astI 326 C h325 dX10_plan_325 rfl ?_
  refine xr_aload_n 327 1 C dX10_plan_326 rfl rfl rfl ?_
  obtain ⟨x327, h327, hf⟩ := mm_bd_e hf
  refine xr_getR 330 C cf_X10_57 rfl h327 dX10_plan_327 rfl ?_
  refine xr_iload 332 0 C dX10_plan_330 rfl rfl ?_
  refine xr_aload_n 333 3 C dX10_plan_332 rfl rfl rfl ?_
  refine xr_iconst 334 C (v := 5) dX10_plan_333 (by decide) rfl ?_
  refine xr_iload 336 5 C dX10_plan_334 rfl rfl ?_
  refine xr_imul 337 C dX10_plan_336 rfl ?_
  refine xr_iconst 338 C (v := 4) dX10_plan_337 (by decide) rfl ?_
  refine xr_iadd 339 C dX10_plan_338 rfl ?_
  obtain ⟨x339, h339, hf⟩ := mm_bd_e hf
  refine xr_aldI 340 C h339 dX10_plan_339 rfl ?_
  obtain ⟨M340, h340, hf⟩ := mm_bd_e hf
  refine xr_astI 341 C h340 dX10_plan_340 rfl ?_
  refine xr_iinc 344 5 C dX10_plan_341 rfl (by decide) (v := 1) (by decide) rfl [(5, mm_i (v5 + 1)), (6, mm_i ((v1 * 480) + v5)), (0, mm_r v0), (1, mm_i v1), (3, mm_r v3), (4, mm_i v4)] rfl ?_
  refine xr_goto 250 C dX10_plan_344 (by decide) ?_
  refine xr_sub [2, 3, 4, 5, 0] (lv2 := [(0, mm_r v0), (1, mm_i v1), (3, mm_r v3), (4, mm_i v4), (5, mm_i (v5 + 1))]) rfl ?_
  obtain rfl := Option.some.inj hf
  exact ko
noncomputable def f_X10_plan_347 (M : mm_M) (v4 : Int32) : Option (Int32 × mm_M) :=
  some (v4, M)
set_option maxRecDepth 20000 in
theorem w_X10_plan_347 {g : mm_c} (C : mm_ok g cX10_plan "LessonCardsModel" (some .int) "plan" 10 3 76 0 0) {M : mm_M} {v4 : Int32} {res : Int32 × mm_M} (hf : f_X10_plan_347 M v4 = some res) (ko : (fun z => mm_q g 0 0 (some (mm_i z.1)) z.2) res) : mm_X g 0 0 M 347 [(4, mm_i v4)] [] := by
  unfold f_X10_plan_347 at hf
  refine xr_iload 349 0 C dX10_plan_347 rfl rfl ?_
  obtain rfl := Option.some.inj hf
  exact xr_iret C ko ⟨(Nat.le_of_ble_eq_true rfl), (Nat.le_of_ble_eq_true rfl)⟩ dX10_plan_349
noncomputable def f_X10_plan_250 (M : mm_M) (v0 : Option Nat) (v1 : Int32) (v3 : Option Nat) (v4 : Int32) (v5 : Int32) : Option ((mm_M × Int32) ⊕ (Int32 × mm_M)) :=
  if 480 ≤ v5 then mm_mp (f_X10_plan_347 M v4) else f_X10_plan_258 M v0 v1 v3 v4 v5
set_option maxRecDepth 20000 in
theorem w_X10_plan_250 {g : mm_c} (C : mm_ok g cX10_plan "LessonCardsModel" (some .int) "plan" 10 3 76 0 0) {M : mm_M} {v0 : Option Nat} {v1 : Int32} {v3 : Option Nat} {v4 : Int32} {v5 : Int32} {res : (mm_M × Int32) ⊕ (Int32 × mm_M)} (hf : f_X10_plan_250 M v0 v1 v3 v4 v5 = some res) (ko : (mm_o (h_X10_plan_250 g v0 v1 v3 v4) (fun z => mm_q g 0 0 (some (mm_i z.1)) z.2)) res) : mm_X g 0 0 M 250 [(0, mm_r v0), (1, mm_i v1), (3, mm_r v3), (4, mm_i v4), (5, mm_i v5)] [] := by
  unfold f_X10_plan_250 at hf
  refine xr_iload 252 4 C dX10_plan_250 rfl rfl ?_
  refine xr_sipush 255 C (v := 480) dX10_plan_252 (by decide) rfl ?_
  refine xr_icmp_ge 347 258 C dX10_plan_255 (by decide) rfl (fun hc => ?_) (fun hc => ?_)
  · replace hf := (if_pos hc).symm.trans hf
    refine xr_sub [3] (lv2 := [(4, mm_i v4)]) rfl ?_
    obtain ⟨z, hf2, rfl⟩ := mm_mp_e hf
    clear hf
    have hf := hf2
    clear hf2
    exact w_X10_plan_347 C hf ko
  · replace hf := (if_neg hc).symm.trans hf
    exact w_X10_plan_258 C hf ko
noncomputable def f_X10_plan_250w (M : mm_M) (v0 : Option Nat) (v1 : Int32) (v3 : Option Nat) (v4 : Int32) (v5 : Int32) : Option (Int32 × mm_M) := mm_w (fun x => f_X10_plan_250 x.1 v0 v1 v3 v4 x.2) (M, v5)
theorem l_X10_plan_250 {g : mm_c} (C : mm_ok g cX10_plan "LessonCardsModel" (some .int) "plan" 10 3 76 0 0) {M : mm_M} {v0 : Option Nat} {v1 : Int32} {v3 : Option Nat} {v4 : Int32} {v5 : Int32} {res : Int32 × mm_M} (hf : f_X10_plan_250w M v0 v1 v3 v4 v5 = some res) (ko : (fun z => mm_q g 0 0 (some (mm_i z.1)) z.2) res) : mm_X g 0 0 M 250 [(0, mm_r v0), (1, mm_i v1), (3, mm_r v3), (4, mm_i v4), (5, mm_i v5)] [] :=
  mm_w_W (body := fun x => f_X10_plan_250 x.1 v0 v1 v3 v4 x.2) (Wh := h_X10_plan_250 g v0 v1 v3 v4) (ok := (fun z => mm_q g 0 0 (some (mm_i z.1)) z.2)) (x := (M, v5)) (fun x r hb ho => w_X10_plan_250 C hb ho) hf ko
noncomputable def f_X10_plan_247 (M : mm_M) (v0 : Option Nat) (v1 : Int32) (v3 : Option Nat) (v4 : Int32) : Option (Int32 × mm_M) :=
  f_X10_plan_250w M v0 v1 v3 v4 0
set_option maxRecDepth 20000 in
theorem w_X10_plan_247 {g : mm_c} (C : mm_ok g cX10_plan "LessonCardsModel" (some .int) "plan" 10 3 76 0 0) {M : mm_M} {v0 : Option Nat} {v1 : Int32} {v3 : Option Nat} {v4 : Int32} {res : Int32 × mm_M} (hf : f_X10_plan_247 M v0 v1 v3 v4 = some res) (ko : (fun z => mm_q g 0 0 (some (mm_i z.1)) z.2) res) : mm_X g 0 0 M 247 [(0, mm_r v0), (1, mm_i v1), (3, mm_r v3), (4, mm_i v4)] [] := by
  unfold f_X10_plan_247 at hf
  refine xr_iconst 248 C (v := 0) dX10_plan_247 (by decide) rfl ?_
  refine xr_istore 250 C dX10_plan_248 (by decide) rfl [(5, mm_i 0), (0, mm_r v0), (1, mm_i v1), (3, mm_r v3), (4, mm_i v4)] rfl ?_
  refine xr_sub [1, 2, 3, 4, 0] (lv2 := [(0, mm_r v0), (1, mm_i v1), (3, mm_r v3), (4, mm_i v4), (5, mm_i 0)]) rfl ?_
  exact l_X10_plan_250 C hf ko
noncomputable def f_X10_plan_130 (M : mm_M) (v0 : Option Nat) (v1 : Int32) (v2 : Int32) (v3 : Option Nat) (v4 : Int32) (v5 : Int32) : Option ((mm_M × Int32 × Int32) ⊕ (Int32 × mm_M)) :=
  if v2 < v5 then mm_mp (f_X10_plan_247 M v0 v1 v3 v4) else f_X10_plan_136 M v0 v1 v2 v3 v5
set_option maxRecDepth 20000 in
theorem w_X10_plan_130 {g : mm_c} (C : mm_ok g cX10_plan "LessonCardsModel" (some .int) "plan" 10 3 76 0 0) {M : mm_M} {v0 : Option Nat} {v1 : Int32} {v2 : Int32} {v3 : Option Nat} {v4 : Int32} {v5 : Int32} {res : (mm_M × Int32 × Int32) ⊕ (Int32 × mm_M)} (hf : f_X10_plan_130 M v0 v1 v2 v3 v4 v5 = some res) (ko : (mm_o (h_X10_plan_130 g v0 v1 v2 v3) (fun z => mm_q g 0 0 (some (mm_i z.1)) z.2)) res) : mm_X g 0 0 M 130 [(0, mm_r v0), (1, mm_i v1), (2, mm_i v2), (3, mm_r v3), (4, mm_i v4), (5, mm_i v5)] [] := by
  unfold f_X10_plan_130 at hf
  refine xr_iload 132 5 C dX10_plan_130 rfl rfl ?_
  refine xr_iload_n 133 2 C dX10_plan_132 rfl rfl rfl ?_
  refine xr_icmp_gt 247 136 C dX10_plan_133 (by decide) rfl (fun hc => ?_) (fun hc => ?_)
  · replace hf := (if_pos hc).symm.trans hf
    refine xr_sub [0, 1, 3, 4] (lv2 := [(0, mm_r v0), (1, mm_i v1), (3, mm_r v3), (4, mm_i v4)]) rfl ?_
    obtain ⟨z, hf2, rfl⟩ := mm_mp_e hf
    clear hf
    have hf := hf2
    clear hf2
    exact w_X10_plan_247 C hf ko
  · replace hf := (if_neg hc).symm.trans hf
    refine xr_sub [0, 1, 2, 3, 5] (lv2 := [(0, mm_r v0), (1, mm_i v1), (2, mm_i v2), (3, mm_r v3), (5, mm_i v5)]) rfl ?_
    exact w_X10_plan_136 C hf ko
noncomputable def f_X10_plan_130w (M : mm_M) (v0 : Option Nat) (v1 : Int32) (v2 : Int32) (v3 : Option Nat) (v4 : Int32) (v5 : Int32) : Option (Int32 × mm_M) := mm_w (fun x => f_X10_plan_130 x.1 v0 v1 v2 v3 x.2.1 x.2.2) (M, v4, v5)
theorem l_X10_plan_130 {g : mm_c} (C : mm_ok g cX10_plan "LessonCardsModel" (some .int) "plan" 10 3 76 0 0) {M : mm_M} {v0 : Option Nat} {v1 : Int32} {v2 : Int32} {v3 : Option Nat} {v4 : Int32} {v5 : Int32} {res : Int32 × mm_M} (hf : f_X10_plan_130w M v0 v1 v2 v3 v4 v5 = some res) (ko : (fun z => mm_q g 0 0 (some (mm_i z.1)) z.2) res) : mm_X g 0 0 M 130 [(0, mm_r v0), (1, mm_i v1), (2, mm_i v2), (3, mm_r v3), (4, mm_i v4), (5, mm_i v5)] [] :=
  mm_w_W (body := fun x => f_X10_plan_130 x.1 v0 v1 v2 v3 x.2.1 x.2.2) (Wh := h_X10_plan_130 g v0 v1 v2 v3) (ok := (fun z => mm_q g 0 0 (some (mm_i z.1)) z.2)) (x := (M, v4, v5)) (fun x r hb ho => w_X10_plan_130 C hb ho) hf ko
noncomputable def f_X10_plan_124 (M : mm_M) (v0 : Option Nat) (v1 : Int32) (v2 : Int32) (v3 : Option Nat) : Option (Int32 × mm_M) :=
  f_X10_plan_130w M v0 v1 v2 v3 0 0
set_option maxRecDepth 20000 in
theorem w_X10_plan_124 {g : mm_c} (C : mm_ok g cX10_plan "LessonCardsModel" (some .int) "plan" 10 3 76 0 0) {M : mm_M} {v0 : Option Nat} {v1 : Int32} {v2 : Int32} {v3 : Option Nat} {res : Int32 × mm_M} (hf : f_X10_plan_124 M v0 v1 v2 v3 = some res) (ko : (fun z => mm_q g 0 0 (some (mm_i z.1)) z.2) res) : mm_X g 0 0 M 124 [(0, mm_r v0), (1, mm_i v1), (2, mm_i v2), (3, mm_r v3)] [] := by
  unfold f_X10_plan_124 at hf
  refine xr_iconst 125 C (v := 0) dX10_plan_124 (by decide) rfl ?_
  refine xr_istore 127 C dX10_plan_125 (by decide) rfl [(4, mm_i 0), (0, mm_r v0), (1, mm_i v1), (2, mm_i v2), (3, mm_r v3)] rfl ?_
  refine xr_iconst 128 C (v := 0) dX10_plan_127 (by decide) rfl ?_
  refine xr_istore 130 C dX10_plan_128 (by decide) rfl [(5, mm_i 0), (4, mm_i 0), (0, mm_r v0), (1, mm_i v1), (2, mm_i v2), (3, mm_r v3)] rfl ?_
  refine xr_sub [2, 3, 4, 5, 1, 0] (lv2 := [(0, mm_r v0), (1, mm_i v1), (2, mm_i v2), (3, mm_r v3), (4, mm_i 0), (5, mm_i 0)]) rfl ?_
  exact l_X10_plan_130 C hf ko
noncomputable def f_X10_plan_27 (M : mm_M) (v0 : Option Nat) (v1 : Int32) (v2 : Int32) (v3 : Option Nat) (v4 : Int32) : Option ((mm_M × Int32) ⊕ (Int32 × mm_M)) :=
  if 480 ≤ v4 then mm_mp (f_X10_plan_124 M v0 v1 v2 v3) else f_X10_plan_35 M v0 v1 v2 v3 v4
set_option maxRecDepth 20000 in
theorem w_X10_plan_27 {g : mm_c} (C : mm_ok g cX10_plan "LessonCardsModel" (some .int) "plan" 10 3 76 0 0) {M : mm_M} {v0 : Option Nat} {v1 : Int32} {v2 : Int32} {v3 : Option Nat} {v4 : Int32} {res : (mm_M × Int32) ⊕ (Int32 × mm_M)} (hf : f_X10_plan_27 M v0 v1 v2 v3 v4 = some res) (ko : (mm_o (h_X10_plan_27 g v0 v1 v2 v3) (fun z => mm_q g 0 0 (some (mm_i z.1)) z.2)) res) : mm_X g 0 0 M 27 [(0, mm_r v0), (1, mm_i v1), (2, mm_i v2), (3, mm_r v3), (4, mm_i v4)] [] := by
  unfold f_X10_plan_27 at hf
  refine xr_iload 29 4 C dX10_plan_27 rfl rfl ?_
  refine xr_sipush 32 C (v := 480) dX10_plan_29 (by decide) rfl ?_
  refine xr_icmp_ge 124 35 C dX10_plan_32 (by decide) rfl (fun hc => ?_) (fun hc => ?_)
  · replace hf := (if_pos hc).symm.trans hf
    refine xr_sub [0, 1, 2, 3] (lv2 := [(0, mm_r v0), (1, mm_i v1), (2, mm_i v2), (3, mm_r v3)]) rfl ?_
    obtain ⟨z, hf2, rfl⟩ := mm_mp_e hf
    clear hf
    have hf := hf2
    clear hf2
    exact w_X10_plan_124 C hf ko
  · replace hf := (if_neg hc).symm.trans hf
    exact w_X10_plan_35 C hf ko
noncomputable def f_X10_plan_27w (M : mm_M) (v0 : Option Nat) (v1 : Int32) (v2 : Int32) (v3 : Option Nat) (v4 : Int32) : Option (Int32 × mm_M) := mm_w (fun x => f_X10_plan_27 x.1 v0 v1 v2 v3 x.2) (M, v4)
theorem l_X10_plan_27 {g : mm_c} (C : mm_ok g cX10_plan "LessonCardsModel" (some .int) "plan" 10 3 76 0 0) {M : mm_M} {v0 : Option Nat} {v1 : Int32} {v2 : Int32} {v3 : Option Nat} {v4 : Int32} {res : Int32 × mm_M} (hf : f_X10_plan_27w M v0 v1 v2 v3 v4 = some res) (ko : (fun z => mm_q g 0 0 (some (mm_i z.1)) z.2) res) : mm_X g 0 0 M 27 [(0, mm_r v0), (1, mm_i v1), (2, mm_i v2), (3, mm_r v3), (4, mm_i v4)] [] :=
  mm_w_W (body := fun x => f_X10_plan_27 x.1 v0 v1 v2 v3 x.2) (Wh := h_X10_plan_27 g v0 v1 v2 v3) (ok := (fun z => mm_q g 0 0 (some (mm_i z.1)) z.2)) (x := (M, v4)) (fun x r hb ho => w_X10_plan_27 C hb ho) hf ko
noncomputable def f_X10_plan_19 (M : mm_M) (v0 : Option Nat) (v1 : Int32) (v2 : Int32) : Option (Int32 × mm_M) :=
  (mm_fR M v0 11 47).bind fun x20 =>
  f_X10_plan_27w M v0 v1 v2 x20 0
set_option maxRecDepth 20000 in
theorem w_X10_plan_19 {g : mm_c} (C : mm_ok g cX10_plan "LessonCardsModel" (some .int) "plan" 10 3 76 0 0) {M : mm_M} {v0 : Option Nat} {v1 : Int32} {v2 : Int32} {res : Int32 × mm_M} (hf : f_X10_plan_19 M v0 v1 v2 = some res) (ko : (fun z => mm_q g 0 0 (some (mm_i z.1)) z.2) res) : mm_X g 0 0 M 19 [(0, mm_r v0), (1, mm_i v1), (2, mm_i v2)] [] := by
  unfold f_X10_plan_19 at hf
  refine xr_aload_n 20 0 C dX10_plan_19 rfl rfl rfl ?_
  obtain ⟨x20, h20, hf⟩ := mm_bd_e hf
  refine xr_getR 23 C cf_X10_113 rfl h20 dX10_plan_20 rfl ?_
  refine xr_astore_n 24 C dX10_plan_23 rfl (by decide) rfl [(3, mm_r x20), (0, mm_r v0), (1, mm_i v1), (2, mm_i v2)] rfl ?_
  refine xr_iconst 25 C (v := 0) dX10_plan_24 (by decide) rfl ?_
  refine xr_istore 27 C dX10_plan_25 (by decide) rfl [(4, mm_i 0), (3, mm_r x20), (0, mm_r v0), (1, mm_i v1), (2, mm_i v2)] rfl ?_
  refine xr_sub [2, 3, 4, 1, 0] (lv2 := [(0, mm_r v0), (1, mm_i v1), (2, mm_i v2), (3, mm_r x20), (4, mm_i 0)]) rfl ?_
  exact l_X10_plan_27 C hf ko
noncomputable def f_X10_plan_7 (M : mm_M) (v0 : Option Nat) (v1 : Int32) (v2 : Int32) : Option (Int32 × mm_M) :=
  (f_X10_within M v2 0 59).bind fun x11 =>
  if x11 = 0 then f_X10_plan_17 M else f_X10_plan_19 M v0 v1 v2
set_option maxRecDepth 20000 in
theorem w_X10_plan_7 {g : mm_c} (C : mm_ok g cX10_plan "LessonCardsModel" (some .int) "plan" 10 3 76 0 0) {M : mm_M} {v0 : Option Nat} {v1 : Int32} {v2 : Int32} {res : Int32 × mm_M} (hf : f_X10_plan_7 M v0 v1 v2 = some res) (ko : (fun z => mm_q g 0 0 (some (mm_i z.1)) z.2) res) : mm_X g 0 0 M 7 [(0, mm_r v0), (1, mm_i v1), (2, mm_i v2)] [] := by
  unfold f_X10_plan_7 at hf
  refine xr_iload_n 8 2 C dX10_plan_7 rfl rfl rfl ?_
  refine xr_iconst 9 C (v := 0) dX10_plan_8 (by decide) rfl ?_
  refine xr_bipush 11 C (v := 59) dX10_plan_9 (by decide) rfl ?_
  obtain ⟨x11, h11, hf⟩ := mm_bd_e hf
  refine xr_callS 14 C [mm_i v2, mm_i 0, mm_i 59] cm_X10_123 (fun l G cy => c_X10_within l G cy h11) rfl rfl ⟨⟨Nat.le_of_ble_eq_true rfl, Nat.le_of_ble_eq_true rfl⟩, (Nat.le_of_ble_eq_true rfl), (Nat.le_of_ble_eq_true rfl)⟩ (Nat.le_of_ble_eq_true rfl) dX10_plan_11 rfl ?_
  refine xr_if_ne 19 17 C dX10_plan_14 (by decide) rfl (fun hc => ?_) (fun hc => ?_)
  · replace hf := (if_neg hc).symm.trans hf
    exact w_X10_plan_19 C hf ko
  · replace hf := (if_pos hc).symm.trans hf
    refine xr_sub [] (lv2 := []) rfl ?_
    exact w_X10_plan_17 C hf ko
noncomputable def f_X10_plan_0 (M : mm_M) (v0 : Option Nat) (v1 : Int32) (v2 : Int32) : Option (Int32 × mm_M) :=
  (f_X10_isPupil M v1).bind fun x1 =>
  if x1 = 0 then f_X10_plan_17 M else f_X10_plan_7 M v0 v1 v2
set_option maxRecDepth 20000 in
theorem w_X10_plan_0 {g : mm_c} (C : mm_ok g cX10_plan "LessonCardsModel" (some .int) "plan" 10 3 76 0 0) {M : mm_M} {v0 : Option Nat} {v1 : Int32} {v2 : Int32} {res : Int32 × mm_M} (hf : f_X10_plan_0 M v0 v1 v2 = some res) (ko : (fun z => mm_q g 0 0 (some (mm_i z.1)) z.2) res) : mm_X g 0 0 M 0 [(0, mm_r v0), (1, mm_i v1), (2, mm_i v2)] [] := by
  unfold f_X10_plan_0 at hf
  refine xr_iload_n 1 1 C dX10_plan_0 rfl rfl rfl ?_
  obtain ⟨x1, h1, hf⟩ := mm_bd_e hf
  refine xr_callS 4 C [mm_i v1] cm_X10_190 (fun l G cy => c_X10_isPupil l G cy h1) rfl rfl ⟨⟨Nat.le_of_ble_eq_true rfl, Nat.le_of_ble_eq_true rfl⟩, (Nat.le_of_ble_eq_true rfl), (Nat.le_of_ble_eq_true rfl)⟩ (Nat.le_of_ble_eq_true rfl) dX10_plan_1 rfl ?_
  refine xr_if_eq 17 7 C dX10_plan_4 (by decide) rfl (fun hc => ?_) (fun hc => ?_)
  · replace hf := (if_pos hc).symm.trans hf
    refine xr_sub [] (lv2 := []) rfl ?_
    exact w_X10_plan_17 C hf ko
  · replace hf := (if_neg hc).symm.trans hf
    exact w_X10_plan_7 C hf ko
noncomputable def f_X10_plan (M : mm_M) (v0 : Option Nat) (v1 : Int32) (v2 : Int32) : Option (Int32 × mm_M) := f_X10_plan_0 M v0 v1 v2
theorem c_X10_plan (l : Launch) (G : va_G) (cy : Nat → ClassId) {M : mm_M} {v0 : Option Nat} {v1 : Int32} {v2 : Int32} {r : Int32} {M1 : mm_M} (hf : f_X10_plan M v0 v1 v2 = some (r, M1)) : mm_Met l yX10_plan cX10_plan 10 (some .int) 3 76 0 0 G cy [mm_r v0, mm_i v1, mm_i v2] M (some (mm_i r)) M1 :=
  mm_enter (by decide) (Nat.le_of_ble_eq_true rfl) (fun p e R s m args below meth c Q C hq => xr_sub [0, 1, 2] (lv2 := [(0, mm_r v0), (1, mm_i v1), (2, mm_i v2)]) rfl (w_X10_plan_0 C hf hq))
def h_X10_putAll_68 (g : mm_c) (M : mm_M) (v0 : Option Nat) (v2 : Int32) (v3 : Int32) (v4 : Int32) : (Int32 × Int32) → Prop := fun x => mm_X g 0 0 M 68 [(0, mm_r v0), (2, mm_i v2), (3, mm_i v3), (4, mm_i v4), (6, mm_i x.1), (7, mm_i x.2)] []
def h_X10_putAll_46 (g : mm_c) (v0 : Option Nat) (v2 : Int32) (v3 : Int32) (v4 : Int32) : (mm_M × Int32) → Prop := fun x => mm_X g 0 0 x.1 46 [(0, mm_r v0), (2, mm_i v2), (3, mm_i v3), (4, mm_i v4), (5, mm_i x.2)] []
def h_X10_putAll_205 (g : mm_c) (M : mm_M) (v0 : Option Nat) : Int32 → Prop := fun x => mm_X g 0 0 M 205 [(0, mm_r v0), (4, mm_i x)] []
def h_X10_putAll_28 (g : mm_c) (v0 : Option Nat) (v2 : Int32) (v3 : Int32) : (mm_M × Int32) → Prop := fun x => mm_X g 0 0 x.1 28 [(0, mm_r v0), (2, mm_i v2), (3, mm_i v3), (4, mm_i x.2)] []
def h_X10_putAll_3 (g : mm_c) (v0 : Option Nat) (v2 : Int32) (v3 : Int32) : (mm_M × Int32) → Prop := fun x => mm_X g 0 0 x.1 3 [(0, mm_r v0), (2, mm_i v2), (3, mm_i v3), (4, mm_i x.2)] []
noncomputable def f_X10_putAll_11 (M : mm_M) (v0 : Option Nat) (v2 : Int32) (v3 : Int32) (v4 : Int32) : Option ((mm_M × Int32) ⊕ (Int32 × mm_M)) :=
  (mm_fR M v0 11 35).bind fun x12 =>
  (mm_tI M x12 v4 (-1)).bind fun M18 =>
  some (.inl (M18, (v4 + 1)))
set_option maxRecDepth 20000 in
theorem w_X10_putAll_11 {g : mm_c} (C : mm_ok g cX10_putAll "LessonCardsModel" (some .boolean) "putAll" 8 0 0 0 0) {M : mm_M} {v0 : Option Nat} {v2 : Int32} {v3 : Int32} {v4 : Int32} {res : (mm_M × Int32) ⊕ (Int32 × mm_M)} (hf : f_X10_putAll_11 M v0 v2 v3 v4 = some res) (ko : (mm_o (h_X10_putAll_3 g v0 v2 v3) (fun z => mm_q g 0 0 (some (mm_i z.1)) z.2)) res) : mm_X g 0 0 M 11 [(0, mm_r v0), (2, mm_i v2), (3, mm_i v3), (4, mm_i v4)] [] := by
  unfold f_X10_putAll_11 at hf
  refine xr_aload_n 12 0 C dX10_putAll_11 rfl rfl rfl ?_
  obtain ⟨x12, h12, hf⟩ := mm_bd_e hf
  refine xr_getR 15 C cf_X10_93 rfl h12 dX10_putAll_12 rfl ?_
  refine xr_iload 17 3 C dX10_putAll_15 rfl rfl ?_
  refine xr_iconst 18 C (v := (-1)) dX10_putAll_17 (by decide) rfl ?_
  obtain ⟨M18, h18, hf⟩ := mm_bd_e hf
  refine xr_astI 19 C h18 dX10_putAll_18 rfl ?_
  refine xr_iinc 22 3 C dX10_putAll_19 rfl (by decide) (v := 1) (by decide) rfl [(4, mm_i (v4 + 1)), (0, mm_r v0), (2, mm_i v2), (3, mm_i v3)] rfl ?_
  refine xr_goto 3 C dX10_putAll_22 (by decide) ?_
  refine xr_sub [1, 2, 3, 0] (lv2 := [(0, mm_r v0), (2, mm_i v2), (3, mm_i v3), (4, mm_i (v4 + 1))]) rfl ?_
  obtain rfl := Option.some.inj hf
  exact ko
noncomputable def f_X10_putAll_134 (M : mm_M) (v0 : Option Nat) (v2 : Int32) (v3 : Int32) (v4 : Int32) (v6 : Int32) (v7 : Int32) : Option ((Int32 × Int32) ⊕ ((mm_M × Int32) ⊕ ((mm_M × Int32) ⊕ (Int32 × mm_M)))) :=
  some (.inl (v6, (v7 + 1)))
set_option maxRecDepth 20000 in
theorem w_X10_putAll_134 {g : mm_c} (C : mm_ok g cX10_putAll "LessonCardsModel" (some .boolean) "putAll" 8 0 0 0 0) {M : mm_M} {v0 : Option Nat} {v2 : Int32} {v3 : Int32} {v4 : Int32} {v6 : Int32} {v7 : Int32} {res : (Int32 × Int32) ⊕ ((mm_M × Int32) ⊕ ((mm_M × Int32) ⊕ (Int32 × mm_M)))} (hf : f_X10_putAll_134 M v0 v2 v3 v4 v6 v7 = some res) (ko : (mm_o (h_X10_putAll_68 g M v0 v2 v3 v4) (mm_o (h_X10_putAll_46 g v0 v2 v3 v4) (mm_o (h_X10_putAll_28 g v0 v2 v3) (fun z => mm_q g 0 0 (some (mm_i z.1)) z.2)))) res) : mm_X g 0 0 M 134 [(0, mm_r v0), (2, mm_i v2), (3, mm_i v3), (4, mm_i v4), (6, mm_i v6), (7, mm_i v7)] [] := by
  unfold f_X10_putAll_134 at hf
  refine xr_iinc 137 5 C dX10_putAll_134 rfl (by decide) (v := 1) (by decide) rfl [(7, mm_i (v7 + 1)), (0, mm_r v0), (2, mm_i v2), (3, mm_i v3), (4, mm_i v4), (6, mm_i v6)] rfl ?_
  refine xr_goto 68 C dX10_putAll_137 (by decide) ?_
  refine xr_sub [1, 2, 3, 4, 5, 0] (lv2 := [(0, mm_r v0), (2, mm_i v2), (3, mm_i v3), (4, mm_i v4), (6, mm_i v6), (7, mm_i (v7 + 1))]) rfl ?_
  obtain rfl := Option.some.inj hf
  exact ko
noncomputable def f_X10_putAll_130 (M : mm_M) (v0 : Option Nat) (v2 : Int32) (v3 : Int32) (v4 : Int32) (v7 : Int32) : Option ((Int32 × Int32) ⊕ ((mm_M × Int32) ⊕ ((mm_M × Int32) ⊕ (Int32 × mm_M)))) :=
  f_X10_putAll_134 M v0 v2 v3 v4 v7 v7
set_option maxRecDepth 20000 in
theorem w_X10_putAll_130 {g : mm_c} (C : mm_ok g cX10_putAll "LessonCardsModel" (some .boolean) "putAll" 8 0 0 0 0) {M : mm_M} {v0 : Option Nat} {v2 : Int32} {v3 : Int32} {v4 : Int32} {v7 : Int32} {res : (Int32 × Int32) ⊕ ((mm_M × Int32) ⊕ ((mm_M × Int32) ⊕ (Int32 × mm_M)))} (hf : f_X10_putAll_130 M v0 v2 v3 v4 v7 = some res) (ko : (mm_o (h_X10_putAll_68 g M v0 v2 v3 v4) (mm_o (h_X10_putAll_46 g v0 v2 v3 v4) (mm_o (h_X10_putAll_28 g v0 v2 v3) (fun z => mm_q g 0 0 (some (mm_i z.1)) z.2)))) res) : mm_X g 0 0 M 130 [(0, mm_r v0), (2, mm_i v2), (3, mm_i v3), (4, mm_i v4), (7, mm_i v7)] [] := by
  unfold f_X10_putAll_130 at hf
  refine xr_iload 132 4 C dX10_putAll_130 rfl rfl ?_
  refine xr_istore 134 C dX10_putAll_132 (by decide) rfl [(6, mm_i v7), (0, mm_r v0), (2, mm_i v2), (3, mm_i v3), (4, mm_i v4), (7, mm_i v7)] rfl ?_
  refine xr_sub [1, 2, 3, 4, 0, 5] (lv2 := [(0, mm_r v0), (2, mm_i v2), (3, mm_i v3), (4, mm_i v4), (6, mm_i v7), (7, mm_i v7)]) rfl ?_
  exact w_X10_putAll_134 C hf ko
noncomputable def f_X10_putAll_113 (M : mm_M) (v0 : Option Nat) (v2 : Int32) (v3 : Int32) (v4 : Int32) (v6 : Int32) (v7 : Int32) : Option ((Int32 × Int32) ⊕ ((mm_M × Int32) ⊕ ((mm_M × Int32) ⊕ (Int32 × mm_M)))) :=
  (mm_fR M v0 11 34).bind fun x114 =>
  (mm_aI M x114 12 v7).bind fun x119 =>
  (mm_fR M v0 11 34).bind fun x121 =>
  (mm_aI M x121 12 v6).bind fun x126 =>
  if x126 ≤ x119 then f_X10_putAll_134 M v0 v2 v3 v4 v6 v7 else f_X10_putAll_130 M v0 v2 v3 v4 v7
set_option maxRecDepth 20000 in
theorem w_X10_putAll_113 {g : mm_c} (C : mm_ok g cX10_putAll "LessonCardsModel" (some .boolean) "putAll" 8 0 0 0 0) {M : mm_M} {v0 : Option Nat} {v2 : Int32} {v3 : Int32} {v4 : Int32} {v6 : Int32} {v7 : Int32} {res : (Int32 × Int32) ⊕ ((mm_M × Int32) ⊕ ((mm_M × Int32) ⊕ (Int32 × mm_M)))} (hf : f_X10_putAll_113 M v0 v2 v3 v4 v6 v7 = some res) (ko : (mm_o (h_X10_putAll_68 g M v0 v2 v3 v4) (mm_o (h_X10_putAll_46 g v0 v2 v3 v4) (mm_o (h_X10_putAll_28 g v0 v2 v3) (fun z => mm_q g 0 0 (some (mm_i z.1)) z.2)))) res) : mm_X g 0 0 M 113 [(0, mm_r v0), (2, mm_i v2), (3, mm_i v3), (4, mm_i v4), (6, mm_i v6), (7, mm_i v7)] [] := by
  unfold f_X10_putAll_113 at hf
  refine xr_aload_n 114 0 C dX10_putAll_113 rfl rfl rfl ?_
  obtain ⟨x114, h114, hf⟩ := mm_bd_e hf
  refine xr_getR 117 C cf_X10_90 rfl h114 dX10_putAll_114 rfl ?_
  refine xr_iload 119 5 C dX10_putAll_117 rfl rfl ?_
  obtain ⟨x119, h119, hf⟩ := mm_bd_e hf
  refine xr_aldI 120 C h119 dX10_putAll_119 rfl ?_
  refine xr_aload_n 121 0 C dX10_putAll_120 rfl rfl rfl ?_
  obtain ⟨x121, h121, hf⟩ := mm_bd_e hf
  refine xr_getR 124 C cf_X10_90 rfl h121 dX10_putAll_121 rfl ?_
  refine xr_iload 126 4 C dX10_putAll_124 rfl rfl ?_
  obtain ⟨x126, h126, hf⟩ := mm_bd_e hf
  refine xr_aldI 127 C h126 dX10_putAll_126 rfl ?_
  refine xr_icmp_ge 134 130 C dX10_putAll_127 (by decide) rfl (fun hc => ?_) (fun hc => ?_)
  · replace hf := (if_pos hc).symm.trans hf
    exact w_X10_putAll_134 C hf ko
  · replace hf := (if_neg hc).symm.trans hf
    refine xr_sub [0, 1, 2, 3, 5] (lv2 := [(0, mm_r v0), (2, mm_i v2), (3, mm_i v3), (4, mm_i v4), (7, mm_i v7)]) rfl ?_
    exact w_X10_putAll_130 C hf ko
noncomputable def f_X10_putAll_108 (M : mm_M) (v0 : Option Nat) (v2 : Int32) (v3 : Int32) (v4 : Int32) (v6 : Int32) (v7 : Int32) : Option ((Int32 × Int32) ⊕ ((mm_M × Int32) ⊕ ((mm_M × Int32) ⊕ (Int32 × mm_M)))) :=
  if v6 < 0 then f_X10_putAll_130 M v0 v2 v3 v4 v7 else f_X10_putAll_113 M v0 v2 v3 v4 v6 v7
set_option maxRecDepth 20000 in
theorem w_X10_putAll_108 {g : mm_c} (C : mm_ok g cX10_putAll "LessonCardsModel" (some .boolean) "putAll" 8 0 0 0 0) {M : mm_M} {v0 : Option Nat} {v2 : Int32} {v3 : Int32} {v4 : Int32} {v6 : Int32} {v7 : Int32} {res : (Int32 × Int32) ⊕ ((mm_M × Int32) ⊕ ((mm_M × Int32) ⊕ (Int32 × mm_M)))} (hf : f_X10_putAll_108 M v0 v2 v3 v4 v6 v7 = some res) (ko : (mm_o (h_X10_putAll_68 g M v0 v2 v3 v4) (mm_o (h_X10_putAll_46 g v0 v2 v3 v4) (mm_o (h_X10_putAll_28 g v0 v2 v3) (fun z => mm_q g 0 0 (some (mm_i z.1)) z.2)))) res) : mm_X g 0 0 M 108 [(0, mm_r v0), (2, mm_i v2), (3, mm_i v3), (4, mm_i v4), (6, mm_i v6), (7, mm_i v7)] [] := by
  unfold f_X10_putAll_108 at hf
  refine xr_iload 110 4 C dX10_putAll_108 rfl rfl ?_
  refine xr_if_lt 130 113 C dX10_putAll_110 (by decide) rfl (fun hc => ?_) (fun hc => ?_)
  · replace hf := (if_pos hc).symm.trans hf
    refine xr_sub [0, 1, 2, 3, 5] (lv2 := [(0, mm_r v0), (2, mm_i v2), (3, mm_i v3), (4, mm_i v4), (7, mm_i v7)]) rfl ?_
    exact w_X10_putAll_130 C hf ko
  · replace hf := (if_neg hc).symm.trans hf
    exact w_X10_putAll_113 C hf ko
noncomputable def f_X10_putAll_98 (M : mm_M) (v0 : Option Nat) (v2 : Int32) (v3 : Int32) (v4 : Int32) (v6 : Int32) (v7 : Int32) : Option ((Int32 × Int32) ⊕ ((mm_M × Int32) ⊕ ((mm_M × Int32) ⊕ (Int32 × mm_M)))) :=
  (mm_fR M v0 11 35).bind fun x99 =>
  (mm_aI M x99 12 v7).bind fun x104 =>
  if 0 ≤ x104 then f_X10_putAll_134 M v0 v2 v3 v4 v6 v7 else f_X10_putAll_108 M v0 v2 v3 v4 v6 v7
set_option maxRecDepth 20000 in
theorem w_X10_putAll_98 {g : mm_c} (C : mm_ok g cX10_putAll "LessonCardsModel" (some .boolean) "putAll" 8 0 0 0 0) {M : mm_M} {v0 : Option Nat} {v2 : Int32} {v3 : Int32} {v4 : Int32} {v6 : Int32} {v7 : Int32} {res : (Int32 × Int32) ⊕ ((mm_M × Int32) ⊕ ((mm_M × Int32) ⊕ (Int32 × mm_M)))} (hf : f_X10_putAll_98 M v0 v2 v3 v4 v6 v7 = some res) (ko : (mm_o (h_X10_putAll_68 g M v0 v2 v3 v4) (mm_o (h_X10_putAll_46 g v0 v2 v3 v4) (mm_o (h_X10_putAll_28 g v0 v2 v3) (fun z => mm_q g 0 0 (some (mm_i z.1)) z.2)))) res) : mm_X g 0 0 M 98 [(0, mm_r v0), (2, mm_i v2), (3, mm_i v3), (4, mm_i v4), (6, mm_i v6), (7, mm_i v7)] [] := by
  unfold f_X10_putAll_98 at hf
  refine xr_aload_n 99 0 C dX10_putAll_98 rfl rfl rfl ?_
  obtain ⟨x99, h99, hf⟩ := mm_bd_e hf
  refine xr_getR 102 C cf_X10_93 rfl h99 dX10_putAll_99 rfl ?_
  refine xr_iload 104 5 C dX10_putAll_102 rfl rfl ?_
  obtain ⟨x104, h104, hf⟩ := mm_bd_e hf
  refine xr_aldI 105 C h104 dX10_putAll_104 rfl ?_
  refine xr_if_ge 134 108 C dX10_putAll_105 (by decide) rfl (fun hc => ?_) (fun hc => ?_)
  · replace hf := (if_pos hc).symm.trans hf
    exact w_X10_putAll_134 C hf ko
  · replace hf := (if_neg hc).symm.trans hf
    exact w_X10_putAll_108 C hf ko
noncomputable def f_X10_putAll_86 (M : mm_M) (v0 : Option Nat) (v2 : Int32) (v3 : Int32) (v4 : Int32) (v6 : Int32) (v7 : Int32) : Option ((Int32 × Int32) ⊕ ((mm_M × Int32) ⊕ ((mm_M × Int32) ⊕ (Int32 × mm_M)))) :=
  (mm_fR M v0 11 34).bind fun x87 =>
  (mm_aI M x87 12 v7).bind fun x92 =>
  if v4 < x92 then f_X10_putAll_134 M v0 v2 v3 v4 v6 v7 else f_X10_putAll_98 M v0 v2 v3 v4 v6 v7
set_option maxRecDepth 20000 in
theorem w_X10_putAll_86 {g : mm_c} (C : mm_ok g cX10_putAll "LessonCardsModel" (some .boolean) "putAll" 8 0 0 0 0) {M : mm_M} {v0 : Option Nat} {v2 : Int32} {v3 : Int32} {v4 : Int32} {v6 : Int32} {v7 : Int32} {res : (Int32 × Int32) ⊕ ((mm_M × Int32) ⊕ ((mm_M × Int32) ⊕ (Int32 × mm_M)))} (hf : f_X10_putAll_86 M v0 v2 v3 v4 v6 v7 = some res) (ko : (mm_o (h_X10_putAll_68 g M v0 v2 v3 v4) (mm_o (h_X10_putAll_46 g v0 v2 v3 v4) (mm_o (h_X10_putAll_28 g v0 v2 v3) (fun z => mm_q g 0 0 (some (mm_i z.1)) z.2)))) res) : mm_X g 0 0 M 86 [(0, mm_r v0), (2, mm_i v2), (3, mm_i v3), (4, mm_i v4), (6, mm_i v6), (7, mm_i v7)] [] := by
  unfold f_X10_putAll_86 at hf
  refine xr_aload_n 87 0 C dX10_putAll_86 rfl rfl rfl ?_
  obtain ⟨x87, h87, hf⟩ := mm_bd_e hf
  refine xr_getR 90 C cf_X10_90 rfl h87 dX10_putAll_87 rfl ?_
  refine xr_iload 92 5 C dX10_putAll_90 rfl rfl ?_
  obtain ⟨x92, h92, hf⟩ := mm_bd_e hf
  refine xr_aldI 93 C h92 dX10_putAll_92 rfl ?_
  refine xr_iload 95 3 C dX10_putAll_93 rfl rfl ?_
  refine xr_icmp_gt 134 98 C dX10_putAll_95 (by decide) rfl (fun hc => ?_) (fun hc => ?_)
  · replace hf := (if_pos hc).symm.trans hf
    exact w_X10_putAll_134 C hf ko
  · replace hf := (if_neg hc).symm.trans hf
    exact w_X10_putAll_98 C hf ko
noncomputable def f_X10_putAll_76 (M : mm_M) (v0 : Option Nat) (v2 : Int32) (v3 : Int32) (v4 : Int32) (v6 : Int32) (v7 : Int32) : Option ((Int32 × Int32) ⊕ ((mm_M × Int32) ⊕ ((mm_M × Int32) ⊕ (Int32 × mm_M)))) :=
  (mm_fR M v0 11 34).bind fun x77 =>
  (mm_aI M x77 12 v7).bind fun x82 =>
  if x82 < 0 then f_X10_putAll_134 M v0 v2 v3 v4 v6 v7 else f_X10_putAll_86 M v0 v2 v3 v4 v6 v7
set_option maxRecDepth 20000 in
theorem w_X10_putAll_76 {g : mm_c} (C : mm_ok g cX10_putAll "LessonCardsModel" (some .boolean) "putAll" 8 0 0 0 0) {M : mm_M} {v0 : Option Nat} {v2 : Int32} {v3 : Int32} {v4 : Int32} {v6 : Int32} {v7 : Int32} {res : (Int32 × Int32) ⊕ ((mm_M × Int32) ⊕ ((mm_M × Int32) ⊕ (Int32 × mm_M)))} (hf : f_X10_putAll_76 M v0 v2 v3 v4 v6 v7 = some res) (ko : (mm_o (h_X10_putAll_68 g M v0 v2 v3 v4) (mm_o (h_X10_putAll_46 g v0 v2 v3 v4) (mm_o (h_X10_putAll_28 g v0 v2 v3) (fun z => mm_q g 0 0 (some (mm_i z.1)) z.2)))) res) : mm_X g 0 0 M 76 [(0, mm_r v0), (2, mm_i v2), (3, mm_i v3), (4, mm_i v4), (6, mm_i v6), (7, mm_i v7)] [] := by
  unfold f_X10_putAll_76 at hf
  refine xr_aload_n 77 0 C dX10_putAll_76 rfl rfl rfl ?_
  obtain ⟨x77, h77, hf⟩ := mm_bd_e hf
  refine xr_getR 80 C cf_X10_90 rfl h77 dX10_putAll_77 rfl ?_
  refine xr_iload 82 5 C dX10_putAll_80 rfl rfl ?_
  obtain ⟨x82, h82, hf⟩ := mm_bd_e hf
  refine xr_aldI 83 C h82 dX10_putAll_82 rfl ?_
  refine xr_if_lt 134 86 C dX10_putAll_83 (by decide) rfl (fun hc => ?_) (fun hc => ?_)
  · replace hf := (if_pos hc).symm.trans hf
    exact w_X10_putAll_134 C hf ko
  · replace hf := (if_neg hc).symm.trans hf
    exact w_X10_putAll_86 C hf ko
noncomputable def f_X10_putAll_171 (M : mm_M) : Option (Int32 × mm_M) :=
  some (0, M)
set_option maxRecDepth 20000 in
theorem w_X10_putAll_171 {g : mm_c} (C : mm_ok g cX10_putAll "LessonCardsModel" (some .boolean) "putAll" 8 0 0 0 0) {M : mm_M} {res : Int32 × mm_M} (hf : f_X10_putAll_171 M = some res) (ko : (fun z => mm_q g 0 0 (some (mm_i z.1)) z.2) res) : mm_X g 0 0 M 171 [] [] := by
  unfold f_X10_putAll_171 at hf
  refine xr_iconst 172 C (v := 0) dX10_putAll_171 (by decide) rfl ?_
  obtain rfl := Option.some.inj hf
  exact xr_zret C (by decide) ko ⟨(Nat.le_of_ble_eq_true rfl), (Nat.le_of_ble_eq_true rfl)⟩ dX10_putAll_172
noncomputable def f_X10_putAll_193 (M : mm_M) (v0 : Option Nat) (v2 : Int32) (v3 : Int32) (v4 : Int32) (v5 : Int32) : Option ((mm_M × Int32) ⊕ ((mm_M × Int32) ⊕ (Int32 × mm_M))) :=
  some (.inl (M, v5))
set_option maxRecDepth 20000 in
theorem w_X10_putAll_193 {g : mm_c} (C : mm_ok g cX10_putAll "LessonCardsModel" (some .boolean) "putAll" 8 0 0 0 0) {M : mm_M} {v0 : Option Nat} {v2 : Int32} {v3 : Int32} {v4 : Int32} {v5 : Int32} {res : (mm_M × Int32) ⊕ ((mm_M × Int32) ⊕ (Int32 × mm_M))} (hf : f_X10_putAll_193 M v0 v2 v3 v4 v5 = some res) (ko : (mm_o (h_X10_putAll_46 g v0 v2 v3 v4) (mm_o (h_X10_putAll_28 g v0 v2 v3) (fun z => mm_q g 0 0 (some (mm_i z.1)) z.2))) res) : mm_X g 0 0 M 193 [(0, mm_r v0), (2, mm_i v2), (3, mm_i v3), (4, mm_i v4), (5, mm_i v5)] [] := by
  unfold f_X10_putAll_193 at hf
  refine xr_goto 46 C dX10_putAll_193 (by decide) ?_
  obtain rfl := Option.some.inj hf
  exact ko
noncomputable def f_X10_putAll_173 (M : mm_M) (v0 : Option Nat) (v2 : Int32) (v3 : Int32) (v4 : Int32) (v5 : Int32) (v6 : Int32) : Option ((mm_M × Int32) ⊕ ((mm_M × Int32) ⊕ (Int32 × mm_M))) :=
  (mm_fR M v0 11 35).bind fun x174 =>
  (mm_tI M x174 v6 v4).bind fun M181 =>
  (mm_fR M181 v0 11 36).bind fun x183 =>
  (mm_aI M181 x183 12 v4).bind fun x189 =>
  (mm_tI M181 x183 v4 (x189 + 1)).bind fun M192 =>
  f_X10_putAll_193 M192 v0 v2 v3 v4 v5
set_option maxRecDepth 20000 in
theorem w_X10_putAll_173 {g : mm_c} (C : mm_ok g cX10_putAll "LessonCardsModel" (some .boolean) "putAll" 8 0 0 0 0) {M : mm_M} {v0 : Option Nat} {v2 : Int32} {v3 : Int32} {v4 : Int32} {v5 : Int32} {v6 : Int32} {res : (mm_M × Int32) ⊕ ((mm_M × Int32) ⊕ (Int32 × mm_M))} (hf : f_X10_putAll_173 M v0 v2 v3 v4 v5 v6 = some res) (ko : (mm_o (h_X10_putAll_46 g v0 v2 v3 v4) (mm_o (h_X10_putAll_28 g v0 v2 v3) (fun z => mm_q g 0 0 (some (mm_i z.1)) z.2))) res) : mm_X g 0 0 M 173 [(0, mm_r v0), (2, mm_i v2), (3, mm_i v3), (4, mm_i v4), (5, mm_i v5), (6, mm_i v6)] [] := by
  unfold f_X10_putAll_173 at hf
  refine xr_aload_n 174 0 C dX10_putAll_173 rfl rfl rfl ?_
  obtain ⟨x174, h174, hf⟩ := mm_bd_e hf
  refine xr_getR 177 C cf_X10_93 rfl h174 dX10_putAll_174 rfl ?_
  refine xr_iload 179 5 C dX10_putAll_177 rfl rfl ?_
  refine xr_iload 181 3 C dX10_putAll_179 rfl rfl ?_
  obtain ⟨M181, h181, hf⟩ := mm_bd_e hf
  refine xr_astI 182 C h181 dX10_putAll_181 rfl ?_
  refine xr_aload_n 183 0 C dX10_putAll_182 rfl rfl rfl ?_
  obtain ⟨x183, h183, hf⟩ := mm_bd_e hf
  refine xr_getR 186 C cf_X10_96 rfl h183 dX10_putAll_183 rfl ?_
  refine xr_iload 188 3 C dX10_putAll_186 rfl rfl ?_
  refine xr_dup2_11 189 C dX10_putAll_188 rfl rfl rfl ?_
  obtain ⟨x189, h189, hf⟩ := mm_bd_e hf
  refine xr_aldI 190 C h189 dX10_putAll_189 rfl ?_
  refine xr_iconst 191 C (v := 1) dX10_putAll_190 (by decide) rfl ?_
  refine xr_iadd 192 C dX10_putAll_191 rfl ?_
  obtain ⟨M192, h192, hf⟩ := mm_bd_e hf
  refine xr_astI 193 C h192 dX10_putAll_192 rfl ?_
  refine xr_sub [0, 1, 2, 3, 4] (lv2 := [(0, mm_r v0), (2, mm_i v2), (3, mm_i v3), (4, mm_i v4), (5, mm_i v5)]) rfl ?_
  exact w_X10_putAll_193 C hf ko
noncomputable def f_X10_putAll_157 (M : mm_M) (v0 : Option Nat) (v2 : Int32) (v3 : Int32) (v4 : Int32) (v5 : Int32) (v6 : Int32) : Option ((mm_M × Int32) ⊕ ((mm_M × Int32) ⊕ (Int32 × mm_M))) :=
  (mm_fR M v0 11 34).bind fun x160 =>
  (mm_aI M x160 12 v6).bind fun x165 =>
  if v4 ≤ (x165 + v2) then f_X10_putAll_173 M v0 v2 v3 v4 v5 v6 else mm_mp (mm_mp (f_X10_putAll_171 M))
set_option maxRecDepth 20000 in
theorem w_X10_putAll_157 {g : mm_c} (C : mm_ok g cX10_putAll "LessonCardsModel" (some .boolean) "putAll" 8 0 0 0 0) {M : mm_M} {v0 : Option Nat} {v2 : Int32} {v3 : Int32} {v4 : Int32} {v5 : Int32} {v6 : Int32} {res : (mm_M × Int32) ⊕ ((mm_M × Int32) ⊕ (Int32 × mm_M))} (hf : f_X10_putAll_157 M v0 v2 v3 v4 v5 v6 = some res) (ko : (mm_o (h_X10_putAll_46 g v0 v2 v3 v4) (mm_o (h_X10_putAll_28 g v0 v2 v3) (fun z => mm_q g 0 0 (some (mm_i z.1)) z.2))) res) : mm_X g 0 0 M 157 [(0, mm_r v0), (2, mm_i v2), (3, mm_i v3), (4, mm_i v4), (5, mm_i v5), (6, mm_i v6)] [] := by
  unfold f_X10_putAll_157 at hf
  refine xr_iload 159 3 C dX10_putAll_157 rfl rfl ?_
  refine xr_aload_n 160 0 C dX10_putAll_159 rfl rfl rfl ?_
  obtain ⟨x160, h160, hf⟩ := mm_bd_e hf
  refine xr_getR 163 C cf_X10_90 rfl h160 dX10_putAll_160 rfl ?_
  refine xr_iload 165 5 C dX10_putAll_163 rfl rfl ?_
  obtain ⟨x165, h165, hf⟩ := mm_bd_e hf
  refine xr_aldI 166 C h165 dX10_putAll_165 rfl ?_
  refine xr_iload_n 167 1 C dX10_putAll_166 rfl rfl rfl ?_
  refine xr_iadd 168 C dX10_putAll_167 rfl ?_
  refine xr_icmp_le 173 171 C dX10_putAll_168 (by decide) rfl (fun hc => ?_) (fun hc => ?_)
  · replace hf := (if_pos hc).symm.trans hf
    exact w_X10_putAll_173 C hf ko
  · replace hf := (if_neg hc).symm.trans hf
    refine xr_sub [] (lv2 := []) rfl ?_
    obtain ⟨z, hf2, rfl⟩ := mm_mp_e hf
    clear hf
    have hf := hf2
    clear hf2
    obtain ⟨z, hf2, rfl⟩ := mm_mp_e hf
    clear hf
    have hf := hf2
    clear hf2
    exact w_X10_putAll_171 C hf ko
noncomputable def f_X10_putAll_150 (M : mm_M) (v0 : Option Nat) (v2 : Int32) (v3 : Int32) (v4 : Int32) (v6 : Int32) (s0 : Int32) : Option ((mm_M × Int32) ⊕ ((mm_M × Int32) ⊕ (Int32 × mm_M))) :=
  if s0 = 0 then f_X10_putAll_193 M v0 v2 v3 v4 s0 else f_X10_putAll_157 M v0 v2 v3 v4 s0 v6
set_option maxRecDepth 20000 in
theorem w_X10_putAll_150 {g : mm_c} (C : mm_ok g cX10_putAll "LessonCardsModel" (some .boolean) "putAll" 8 0 0 0 0) {M : mm_M} {v0 : Option Nat} {v2 : Int32} {v3 : Int32} {v4 : Int32} {v6 : Int32} {s0 : Int32} {res : (mm_M × Int32) ⊕ ((mm_M × Int32) ⊕ (Int32 × mm_M))} (hf : f_X10_putAll_150 M v0 v2 v3 v4 v6 s0 = some res) (ko : (mm_o (h_X10_putAll_46 g v0 v2 v3 v4) (mm_o (h_X10_putAll_28 g v0 v2 v3) (fun z => mm_q g 0 0 (some (mm_i z.1)) z.2))) res) : mm_X g 0 0 M 150 [(0, mm_r v0), (2, mm_i v2), (3, mm_i v3), (4, mm_i v4), (6, mm_i v6)] [mm_i s0] := by
  unfold f_X10_putAll_150 at hf
  refine xr_istore 152 C dX10_putAll_150 (by decide) rfl [(5, mm_i s0), (0, mm_r v0), (2, mm_i v2), (3, mm_i v3), (4, mm_i v4), (6, mm_i v6)] rfl ?_
  refine xr_iload 154 0 C dX10_putAll_152 rfl rfl ?_
  refine xr_if_eq 193 157 C dX10_putAll_154 (by decide) rfl (fun hc => ?_) (fun hc => ?_)
  · replace hf := (if_pos hc).symm.trans hf
    refine xr_sub [1, 2, 3, 4, 0] (lv2 := [(0, mm_r v0), (2, mm_i v2), (3, mm_i v3), (4, mm_i v4), (5, mm_i s0)]) rfl ?_
    exact w_X10_putAll_193 C hf ko
  · replace hf := (if_neg hc).symm.trans hf
    refine xr_sub [1, 2, 3, 4, 0, 5] (lv2 := [(0, mm_r v0), (2, mm_i v2), (3, mm_i v3), (4, mm_i v4), (5, mm_i s0), (6, mm_i v6)]) rfl ?_
    exact w_X10_putAll_157 C hf ko
noncomputable def f_X10_putAll_145 (M : mm_M) (v0 : Option Nat) (v2 : Int32) (v3 : Int32) (v4 : Int32) (v6 : Int32) : Option ((mm_M × Int32) ⊕ ((mm_M × Int32) ⊕ (Int32 × mm_M))) :=
  f_X10_putAll_150 M v0 v2 v3 v4 v6 1
set_option maxRecDepth 20000 in
theorem w_X10_putAll_145 {g : mm_c} (C : mm_ok g cX10_putAll "LessonCardsModel" (some .boolean) "putAll" 8 0 0 0 0) {M : mm_M} {v0 : Option Nat} {v2 : Int32} {v3 : Int32} {v4 : Int32} {v6 : Int32} {res : (mm_M × Int32) ⊕ ((mm_M × Int32) ⊕ (Int32 × mm_M))} (hf : f_X10_putAll_145 M v0 v2 v3 v4 v6 = some res) (ko : (mm_o (h_X10_putAll_46 g v0 v2 v3 v4) (mm_o (h_X10_putAll_28 g v0 v2 v3) (fun z => mm_q g 0 0 (some (mm_i z.1)) z.2))) res) : mm_X g 0 0 M 145 [(0, mm_r v0), (2, mm_i v2), (3, mm_i v3), (4, mm_i v4), (6, mm_i v6)] [] := by
  unfold f_X10_putAll_145 at hf
  refine xr_iconst 146 C (v := 1) dX10_putAll_145 (by decide) rfl ?_
  refine xr_goto 150 C dX10_putAll_146 (by decide) ?_
  exact w_X10_putAll_150 C hf ko
noncomputable def f_X10_putAll_149 (M : mm_M) (v0 : Option Nat) (v2 : Int32) (v3 : Int32) (v4 : Int32) (v6 : Int32) : Option ((mm_M × Int32) ⊕ ((mm_M × Int32) ⊕ (Int32 × mm_M))) :=
  f_X10_putAll_150 M v0 v2 v3 v4 v6 0
set_option maxRecDepth 20000 in
theorem w_X10_putAll_149 {g : mm_c} (C : mm_ok g cX10_putAll "LessonCardsModel" (some .boolean) "putAll" 8 0 0 0 0) {M : mm_M} {v0 : Option Nat} {v2 : Int32} {v3 : Int32} {v4 : Int32} {v6 : Int32} {res : (mm_M × Int32) ⊕ ((mm_M × Int32) ⊕ (Int32 × mm_M))} (hf : f_X10_putAll_149 M v0 v2 v3 v4 v6 = some res) (ko : (mm_o (h_X10_putAll_46 g v0 v2 v3 v4) (mm_o (h_X10_putAll_28 g v0 v2 v3) (fun z => mm_q g 0 0 (some (mm_i z.1)) z.2))) res) : mm_X g 0 0 M 149 [(0, mm_r v0), (2, mm_i v2), (3, mm_i v3), (4, mm_i v4), (6, mm_i v6)] [] := by
  unfold f_X10_putAll_149 at hf
  refine xr_iconst 150 C (v := 0) dX10_putAll_149 (by decide) rfl ?_
  exact w_X10_putAll_150 C hf ko
noncomputable def f_X10_putAll_140 (M : mm_M) (v0 : Option Nat) (v2 : Int32) (v3 : Int32) (v4 : Int32) (v6 : Int32) : Option ((mm_M × Int32) ⊕ ((mm_M × Int32) ⊕ (Int32 × mm_M))) :=
  if v6 < 0 then f_X10_putAll_149 M v0 v2 v3 v4 v6 else f_X10_putAll_145 M v0 v2 v3 v4 v6
set_option maxRecDepth 20000 in
theorem w_X10_putAll_140 {g : mm_c} (C : mm_ok g cX10_putAll "LessonCardsModel" (some .boolean) "putAll" 8 0 0 0 0) {M : mm_M} {v0 : Option Nat} {v2 : Int32} {v3 : Int32} {v4 : Int32} {v6 : Int32} {res : (mm_M × Int32) ⊕ ((mm_M × Int32) ⊕ (Int32 × mm_M))} (hf : f_X10_putAll_140 M v0 v2 v3 v4 v6 = some res) (ko : (mm_o (h_X10_putAll_46 g v0 v2 v3 v4) (mm_o (h_X10_putAll_28 g v0 v2 v3) (fun z => mm_q g 0 0 (some (mm_i z.1)) z.2))) res) : mm_X g 0 0 M 140 [(0, mm_r v0), (2, mm_i v2), (3, mm_i v3), (4, mm_i v4), (6, mm_i v6)] [] := by
  unfold f_X10_putAll_140 at hf
  refine xr_iload 142 4 C dX10_putAll_140 rfl rfl ?_
  refine xr_if_lt 149 145 C dX10_putAll_142 (by decide) rfl (fun hc => ?_) (fun hc => ?_)
  · replace hf := (if_pos hc).symm.trans hf
    exact w_X10_putAll_149 C hf ko
  · replace hf := (if_neg hc).symm.trans hf
    exact w_X10_putAll_145 C hf ko
noncomputable def f_X10_putAll_68 (M : mm_M) (v0 : Option Nat) (v2 : Int32) (v3 : Int32) (v4 : Int32) (v6 : Int32) (v7 : Int32) : Option ((Int32 × Int32) ⊕ ((mm_M × Int32) ⊕ ((mm_M × Int32) ⊕ (Int32 × mm_M)))) :=
  if 480 ≤ v7 then mm_mp (f_X10_putAll_140 M v0 v2 v3 v4 v6) else f_X10_putAll_76 M v0 v2 v3 v4 v6 v7
set_option maxRecDepth 20000 in
theorem w_X10_putAll_68 {g : mm_c} (C : mm_ok g cX10_putAll "LessonCardsModel" (some .boolean) "putAll" 8 0 0 0 0) {M : mm_M} {v0 : Option Nat} {v2 : Int32} {v3 : Int32} {v4 : Int32} {v6 : Int32} {v7 : Int32} {res : (Int32 × Int32) ⊕ ((mm_M × Int32) ⊕ ((mm_M × Int32) ⊕ (Int32 × mm_M)))} (hf : f_X10_putAll_68 M v0 v2 v3 v4 v6 v7 = some res) (ko : (mm_o (h_X10_putAll_68 g M v0 v2 v3 v4) (mm_o (h_X10_putAll_46 g v0 v2 v3 v4) (mm_o (h_X10_putAll_28 g v0 v2 v3) (fun z => mm_q g 0 0 (some (mm_i z.1)) z.2)))) res) : mm_X g 0 0 M 68 [(0, mm_r v0), (2, mm_i v2), (3, mm_i v3), (4, mm_i v4), (6, mm_i v6), (7, mm_i v7)] [] := by
  unfold f_X10_putAll_68 at hf
  refine xr_iload 70 5 C dX10_putAll_68 rfl rfl ?_
  refine xr_sipush 73 C (v := 480) dX10_putAll_70 (by decide) rfl ?_
  refine xr_icmp_ge 140 76 C dX10_putAll_73 (by decide) rfl (fun hc => ?_) (fun hc => ?_)
  · replace hf := (if_pos hc).symm.trans hf
    refine xr_sub [0, 1, 2, 3, 4] (lv2 := [(0, mm_r v0), (2, mm_i v2), (3, mm_i v3), (4, mm_i v4), (6, mm_i v6)]) rfl ?_
    obtain ⟨z, hf2, rfl⟩ := mm_mp_e hf
    clear hf
    have hf := hf2
    clear hf2
    exact w_X10_putAll_140 C hf ko
  · replace hf := (if_neg hc).symm.trans hf
    exact w_X10_putAll_76 C hf ko
noncomputable def f_X10_putAll_68w (M : mm_M) (v0 : Option Nat) (v2 : Int32) (v3 : Int32) (v4 : Int32) (v6 : Int32) (v7 : Int32) : Option ((mm_M × Int32) ⊕ ((mm_M × Int32) ⊕ (Int32 × mm_M))) := mm_w (fun x => f_X10_putAll_68 M v0 v2 v3 v4 x.1 x.2) (v6, v7)
theorem l_X10_putAll_68 {g : mm_c} (C : mm_ok g cX10_putAll "LessonCardsModel" (some .boolean) "putAll" 8 0 0 0 0) {M : mm_M} {v0 : Option Nat} {v2 : Int32} {v3 : Int32} {v4 : Int32} {v6 : Int32} {v7 : Int32} {res : (mm_M × Int32) ⊕ ((mm_M × Int32) ⊕ (Int32 × mm_M))} (hf : f_X10_putAll_68w M v0 v2 v3 v4 v6 v7 = some res) (ko : (mm_o (h_X10_putAll_46 g v0 v2 v3 v4) (mm_o (h_X10_putAll_28 g v0 v2 v3) (fun z => mm_q g 0 0 (some (mm_i z.1)) z.2))) res) : mm_X g 0 0 M 68 [(0, mm_r v0), (2, mm_i v2), (3, mm_i v3), (4, mm_i v4), (6, mm_i v6), (7, mm_i v7)] [] :=
  mm_w_W (body := fun x => f_X10_putAll_68 M v0 v2 v3 v4 x.1 x.2) (Wh := h_X10_putAll_68 g M v0 v2 v3 v4) (ok := (mm_o (h_X10_putAll_46 g v0 v2 v3 v4) (mm_o (h_X10_putAll_28 g v0 v2 v3) (fun z => mm_q g 0 0 (some (mm_i z.1)) z.2)))) (x := (v6, v7)) (fun x r hb ho => w_X10_putAll_68 C hb ho) hf ko
noncomputable def f_X10_putAll_62 (M : mm_M) (v0 : Option Nat) (v2 : Int32) (v3 : Int32) (v4 : Int32) : Option ((mm_M × Int32) ⊕ ((mm_M × Int32) ⊕ (Int32 × mm_M))) :=
  f_X10_putAll_68w M v0 v2 v3 v4 (-1) 0
set_option maxRecDepth 20000 in
theorem w_X10_putAll_62 {g : mm_c} (C : mm_ok g cX10_putAll "LessonCardsModel" (some .boolean) "putAll" 8 0 0 0 0) {M : mm_M} {v0 : Option Nat} {v2 : Int32} {v3 : Int32} {v4 : Int32} {res : (mm_M × Int32) ⊕ ((mm_M × Int32) ⊕ (Int32 × mm_M))} (hf : f_X10_putAll_62 M v0 v2 v3 v4 = some res) (ko : (mm_o (h_X10_putAll_46 g v0 v2 v3 v4) (mm_o (h_X10_putAll_28 g v0 v2 v3) (fun z => mm_q g 0 0 (some (mm_i z.1)) z.2))) res) : mm_X g 0 0 M 62 [(0, mm_r v0), (2, mm_i v2), (3, mm_i v3), (4, mm_i v4)] [] := by
  unfold f_X10_putAll_62 at hf
  refine xr_iconst 63 C (v := (-1)) dX10_putAll_62 (by decide) rfl ?_
  refine xr_istore 65 C dX10_putAll_63 (by decide) rfl [(6, mm_i (-1)), (0, mm_r v0), (2, mm_i v2), (3, mm_i v3), (4, mm_i v4)] rfl ?_
  refine xr_iconst 66 C (v := 0) dX10_putAll_65 (by decide) rfl ?_
  refine xr_istore 68 C dX10_putAll_66 (by decide) rfl [(7, mm_i 0), (6, mm_i (-1)), (0, mm_r v0), (2, mm_i v2), (3, mm_i v3), (4, mm_i v4)] rfl ?_
  refine xr_sub [2, 3, 4, 5, 1, 0] (lv2 := [(0, mm_r v0), (2, mm_i v2), (3, mm_i v3), (4, mm_i v4), (6, mm_i (-1)), (7, mm_i 0)]) rfl ?_
  exact l_X10_putAll_68 C hf ko
noncomputable def f_X10_putAll_196 (M : mm_M) (v0 : Option Nat) (v2 : Int32) (v3 : Int32) (v4 : Int32) : Option ((mm_M × Int32) ⊕ (Int32 × mm_M)) :=
  some (.inl (M, (v4 + 1)))
set_option maxRecDepth 20000 in
theorem w_X10_putAll_196 {g : mm_c} (C : mm_ok g cX10_putAll "LessonCardsModel" (some .boolean) "putAll" 8 0 0 0 0) {M : mm_M} {v0 : Option Nat} {v2 : Int32} {v3 : Int32} {v4 : Int32} {res : (mm_M × Int32) ⊕ (Int32 × mm_M)} (hf : f_X10_putAll_196 M v0 v2 v3 v4 = some res) (ko : (mm_o (h_X10_putAll_28 g v0 v2 v3) (fun z => mm_q g 0 0 (some (mm_i z.1)) z.2)) res) : mm_X g 0 0 M 196 [(0, mm_r v0), (2, mm_i v2), (3, mm_i v3), (4, mm_i v4)] [] := by
  unfold f_X10_putAll_196 at hf
  refine xr_iinc 199 3 C dX10_putAll_196 rfl (by decide) (v := 1) (by decide) rfl [(4, mm_i (v4 + 1)), (0, mm_r v0), (2, mm_i v2), (3, mm_i v3)] rfl ?_
  refine xr_goto 28 C dX10_putAll_199 (by decide) ?_
  refine xr_sub [1, 2, 3, 0] (lv2 := [(0, mm_r v0), (2, mm_i v2), (3, mm_i v3), (4, mm_i (v4 + 1))]) rfl ?_
  obtain rfl := Option.some.inj hf
  exact ko
noncomputable def f_X10_putAll_51 (M : mm_M) (v0 : Option Nat) (v2 : Int32) (v3 : Int32) (v4 : Int32) : Option ((mm_M × Int32) ⊕ ((mm_M × Int32) ⊕ (Int32 × mm_M))) :=
  (mm_fR M v0 11 36).bind fun x52 =>
  (mm_aI M x52 12 v4).bind fun x57 =>
  if v3 ≤ x57 then mm_mp (f_X10_putAll_196 M v0 v2 v3 v4) else f_X10_putAll_62 M v0 v2 v3 v4
set_option maxRecDepth 20000 in
theorem w_X10_putAll_51 {g : mm_c} (C : mm_ok g cX10_putAll "LessonCardsModel" (some .boolean) "putAll" 8 0 0 0 0) {M : mm_M} {v0 : Option Nat} {v2 : Int32} {v3 : Int32} {v4 : Int32} {res : (mm_M × Int32) ⊕ ((mm_M × Int32) ⊕ (Int32 × mm_M))} (hf : f_X10_putAll_51 M v0 v2 v3 v4 = some res) (ko : (mm_o (h_X10_putAll_46 g v0 v2 v3 v4) (mm_o (h_X10_putAll_28 g v0 v2 v3) (fun z => mm_q g 0 0 (some (mm_i z.1)) z.2))) res) : mm_X g 0 0 M 51 [(0, mm_r v0), (2, mm_i v2), (3, mm_i v3), (4, mm_i v4)] [] := by
  unfold f_X10_putAll_51 at hf
  refine xr_aload_n 52 0 C dX10_putAll_51 rfl rfl rfl ?_
  obtain ⟨x52, h52, hf⟩ := mm_bd_e hf
  refine xr_getR 55 C cf_X10_96 rfl h52 dX10_putAll_52 rfl ?_
  refine xr_iload 57 3 C dX10_putAll_55 rfl rfl ?_
  obtain ⟨x57, h57, hf⟩ := mm_bd_e hf
  refine xr_aldI 58 C h57 dX10_putAll_57 rfl ?_
  refine xr_iload_n 59 2 C dX10_putAll_58 rfl rfl rfl ?_
  refine xr_icmp_ge 196 62 C dX10_putAll_59 (by decide) rfl (fun hc => ?_) (fun hc => ?_)
  · replace hf := (if_pos hc).symm.trans hf
    obtain ⟨z, hf2, rfl⟩ := mm_mp_e hf
    clear hf
    have hf := hf2
    clear hf2
    exact w_X10_putAll_196 C hf ko
  · replace hf := (if_neg hc).symm.trans hf
    exact w_X10_putAll_62 C hf ko
noncomputable def f_X10_putAll_46 (M : mm_M) (v0 : Option Nat) (v2 : Int32) (v3 : Int32) (v4 : Int32) (v5 : Int32) : Option ((mm_M × Int32) ⊕ ((mm_M × Int32) ⊕ (Int32 × mm_M))) :=
  if v5 = 0 then mm_mp (f_X10_putAll_196 M v0 v2 v3 v4) else f_X10_putAll_51 M v0 v2 v3 v4
set_option maxRecDepth 20000 in
theorem w_X10_putAll_46 {g : mm_c} (C : mm_ok g cX10_putAll "LessonCardsModel" (some .boolean) "putAll" 8 0 0 0 0) {M : mm_M} {v0 : Option Nat} {v2 : Int32} {v3 : Int32} {v4 : Int32} {v5 : Int32} {res : (mm_M × Int32) ⊕ ((mm_M × Int32) ⊕ (Int32 × mm_M))} (hf : f_X10_putAll_46 M v0 v2 v3 v4 v5 = some res) (ko : (mm_o (h_X10_putAll_46 g v0 v2 v3 v4) (mm_o (h_X10_putAll_28 g v0 v2 v3) (fun z => mm_q g 0 0 (some (mm_i z.1)) z.2))) res) : mm_X g 0 0 M 46 [(0, mm_r v0), (2, mm_i v2), (3, mm_i v3), (4, mm_i v4), (5, mm_i v5)] [] := by
  unfold f_X10_putAll_46 at hf
  refine xr_iload 48 4 C dX10_putAll_46 rfl rfl ?_
  refine xr_if_eq 196 51 C dX10_putAll_48 (by decide) rfl (fun hc => ?_) (fun hc => ?_)
  · replace hf := (if_pos hc).symm.trans hf
    refine xr_sub [0, 1, 2, 3] (lv2 := [(0, mm_r v0), (2, mm_i v2), (3, mm_i v3), (4, mm_i v4)]) rfl ?_
    obtain ⟨z, hf2, rfl⟩ := mm_mp_e hf
    clear hf
    have hf := hf2
    clear hf2
    exact w_X10_putAll_196 C hf ko
  · replace hf := (if_neg hc).symm.trans hf
    refine xr_sub [0, 1, 2, 3] (lv2 := [(0, mm_r v0), (2, mm_i v2), (3, mm_i v3), (4, mm_i v4)]) rfl ?_
    exact w_X10_putAll_51 C hf ko
noncomputable def f_X10_putAll_46w (M : mm_M) (v0 : Option Nat) (v2 : Int32) (v3 : Int32) (v4 : Int32) (v5 : Int32) : Option ((mm_M × Int32) ⊕ (Int32 × mm_M)) := mm_w (fun x => f_X10_putAll_46 x.1 v0 v2 v3 v4 x.2) (M, v5)
theorem l_X10_putAll_46 {g : mm_c} (C : mm_ok g cX10_putAll "LessonCardsModel" (some .boolean) "putAll" 8 0 0 0 0) {M : mm_M} {v0 : Option Nat} {v2 : Int32} {v3 : Int32} {v4 : Int32} {v5 : Int32} {res : (mm_M × Int32) ⊕ (Int32 × mm_M)} (hf : f_X10_putAll_46w M v0 v2 v3 v4 v5 = some res) (ko : (mm_o (h_X10_putAll_28 g v0 v2 v3) (fun z => mm_q g 0 0 (some (mm_i z.1)) z.2)) res) : mm_X g 0 0 M 46 [(0, mm_r v0), (2, mm_i v2), (3, mm_i v3), (4, mm_i v4), (5, mm_i v5)] [] :=
  mm_w_W (body := fun x => f_X10_putAll_46 x.1 v0 v2 v3 v4 x.2) (Wh := h_X10_putAll_46 g v0 v2 v3 v4) (ok := (mm_o (h_X10_putAll_28 g v0 v2 v3) (fun z => mm_q g 0 0 (some (mm_i z.1)) z.2))) (x := (M, v5)) (fun x r hb ho => w_X10_putAll_46 C hb ho) hf ko
noncomputable def f_X10_putAll_35 (M : mm_M) (v0 : Option Nat) (v2 : Int32) (v3 : Int32) (v4 : Int32) : Option ((mm_M × Int32) ⊕ (Int32 × mm_M)) :=
  (mm_fR M v0 11 36).bind fun x36 =>
  (mm_tI M x36 v4 0).bind fun M42 =>
  f_X10_putAll_46w M42 v0 v2 v3 v4 1
set_option maxRecDepth 20000 in
theorem w_X10_putAll_35 {g : mm_c} (C : mm_ok g cX10_putAll "LessonCardsModel" (some .boolean) "putAll" 8 0 0 0 0) {M : mm_M} {v0 : Option Nat} {v2 : Int32} {v3 : Int32} {v4 : Int32} {res : (mm_M × Int32) ⊕ (Int32 × mm_M)} (hf : f_X10_putAll_35 M v0 v2 v3 v4 = some res) (ko : (mm_o (h_X10_putAll_28 g v0 v2 v3) (fun z => mm_q g 0 0 (some (mm_i z.1)) z.2)) res) : mm_X g 0 0 M 35 [(0, mm_r v0), (2, mm_i v2), (3, mm_i v3), (4, mm_i v4)] [] := by
  unfold f_X10_putAll_35 at hf
  refine xr_aload_n 36 0 C dX10_putAll_35 rfl rfl rfl ?_
  obtain ⟨x36, h36, hf⟩ := mm_bd_e hf
  refine xr_getR 39 C cf_X10_96 rfl h36 dX10_putAll_36 rfl ?_
  refine xr_iload 41 3 C dX10_putAll_39 rfl rfl ?_
  refine xr_iconst 42 C (v := 0) dX10_putAll_41 (by decide) rfl ?_
  obtain ⟨M42, h42, hf⟩ := mm_bd_e hf
  refine xr_astI 43 C h42 dX10_putAll_42 rfl ?_
  refine xr_iconst 44 C (v := 1) dX10_putAll_43 (by decide) rfl ?_
  refine xr_istore 46 C dX10_putAll_44 (by decide) rfl [(5, mm_i 1), (0, mm_r v0), (2, mm_i v2), (3, mm_i v3), (4, mm_i v4)] rfl ?_
  refine xr_sub [1, 2, 3, 4, 0] (lv2 := [(0, mm_r v0), (2, mm_i v2), (3, mm_i v3), (4, mm_i v4), (5, mm_i 1)]) rfl ?_
  exact l_X10_putAll_46 C hf ko
noncomputable def f_X10_putAll_233 (M : mm_M) : Option (Int32 × mm_M) :=
  some (0, M)
set_option maxRecDepth 20000 in
theorem w_X10_putAll_233 {g : mm_c} (C : mm_ok g cX10_putAll "LessonCardsModel" (some .boolean) "putAll" 8 0 0 0 0) {M : mm_M} {res : Int32 × mm_M} (hf : f_X10_putAll_233 M = some res) (ko : (fun z => mm_q g 0 0 (some (mm_i z.1)) z.2) res) : mm_X g 0 0 M 233 [] [] := by
  unfold f_X10_putAll_233 at hf
  refine xr_iconst 234 C (v := 0) dX10_putAll_233 (by decide) rfl ?_
  obtain rfl := Option.some.inj hf
  exact xr_zret C (by decide) ko ⟨(Nat.le_of_ble_eq_true rfl), (Nat.le_of_ble_eq_true rfl)⟩ dX10_putAll_234
noncomputable def f_X10_putAll_235 (M : mm_M) (v0 : Option Nat) (v4 : Int32) : Option (Int32 ⊕ (Int32 × mm_M)) :=
  some (.inl (v4 + 1))
set_option maxRecDepth 20000 in
theorem w_X10_putAll_235 {g : mm_c} (C : mm_ok g cX10_putAll "LessonCardsModel" (some .boolean) "putAll" 8 0 0 0 0) {M : mm_M} {v0 : Option Nat} {v4 : Int32} {res : Int32 ⊕ (Int32 × mm_M)} (hf : f_X10_putAll_235 M v0 v4 = some res) (ko : (mm_o (h_X10_putAll_205 g M v0) (fun z => mm_q g 0 0 (some (mm_i z.1)) z.2)) res) : mm_X g 0 0 M 235 [(0, mm_r v0), (4, mm_i v4)] [] := by
  unfold f_X10_putAll_235 at hf
  refine xr_iinc 238 1 C dX10_putAll_235 rfl (by decide) (v := 1) (by decide) rfl [(4, mm_i (v4 + 1)), (0, mm_r v0)] rfl ?_
  refine xr_goto 205 C dX10_putAll_238 (by decide) ?_
  refine xr_sub [1, 0] (lv2 := [(0, mm_r v0), (4, mm_i (v4 + 1))]) rfl ?_
  obtain rfl := Option.some.inj hf
  exact ko
noncomputable def f_X10_putAll_223 (M : mm_M) (v0 : Option Nat) (v4 : Int32) : Option (Int32 ⊕ (Int32 × mm_M)) :=
  (mm_fR M v0 11 35).bind fun x224 =>
  (mm_aI M x224 12 v4).bind fun x229 =>
  if 0 ≤ x229 then f_X10_putAll_235 M v0 v4 else mm_mp (f_X10_putAll_233 M)
set_option maxRecDepth 20000 in
theorem w_X10_putAll_223 {g : mm_c} (C : mm_ok g cX10_putAll "LessonCardsModel" (some .boolean) "putAll" 8 0 0 0 0) {M : mm_M} {v0 : Option Nat} {v4 : Int32} {res : Int32 ⊕ (Int32 × mm_M)} (hf : f_X10_putAll_223 M v0 v4 = some res) (ko : (mm_o (h_X10_putAll_205 g M v0) (fun z => mm_q g 0 0 (some (mm_i z.1)) z.2)) res) : mm_X g 0 0 M 223 [(0, mm_r v0), (4, mm_i v4)] [] := by
  unfold f_X10_putAll_223 at hf
  refine xr_aload_n 224 0 C dX10_putAll_223 rfl rfl rfl ?_
  obtain ⟨x224, h224, hf⟩ := mm_bd_e hf
  refine xr_getR 227 C cf_X10_93 rfl h224 dX10_putAll_224 rfl ?_
  refine xr_iload 229 1 C dX10_putAll_227 rfl rfl ?_
  obtain ⟨x229, h229, hf⟩ := mm_bd_e hf
  refine xr_aldI 230 C h229 dX10_putAll_229 rfl ?_
  refine xr_if_ge 235 233 C dX10_putAll_230 (by decide) rfl (fun hc => ?_) (fun hc => ?_)
  · replace hf := (if_pos hc).symm.trans hf
    exact w_X10_putAll_235 C hf ko
  · replace hf := (if_neg hc).symm.trans hf
    refine xr_sub [] (lv2 := []) rfl ?_
    obtain ⟨z, hf2, rfl⟩ := mm_mp_e hf
    clear hf
    have hf := hf2
    clear hf2
    exact w_X10_putAll_233 C hf ko
noncomputable def f_X10_putAll_213 (M : mm_M) (v0 : Option Nat) (v4 : Int32) : Option (Int32 ⊕ (Int32 × mm_M)) :=
  (mm_fR M v0 11 34).bind fun x214 =>
  (mm_aI M x214 12 v4).bind fun x219 =>
  if x219 < 0 then f_X10_putAll_235 M v0 v4 else f_X10_putAll_223 M v0 v4
set_option maxRecDepth 20000 in
theorem w_X10_putAll_213 {g : mm_c} (C : mm_ok g cX10_putAll "LessonCardsModel" (some .boolean) "putAll" 8 0 0 0 0) {M : mm_M} {v0 : Option Nat} {v4 : Int32} {res : Int32 ⊕ (Int32 × mm_M)} (hf : f_X10_putAll_213 M v0 v4 = some res) (ko : (mm_o (h_X10_putAll_205 g M v0) (fun z => mm_q g 0 0 (some (mm_i z.1)) z.2)) res) : mm_X g 0 0 M 213 [(0, mm_r v0), (4, mm_i v4)] [] := by
  unfold f_X10_putAll_213 at hf
  refine xr_aload_n 214 0 C dX10_putAll_213 rfl rfl rfl ?_
  obtain ⟨x214, h214, hf⟩ := mm_bd_e hf
  refine xr_getR 217 C cf_X10_90 rfl h214 dX10_putAll_214 rfl ?_
  refine xr_iload 219 1 C dX10_putAll_217 rfl rfl ?_
  obtain ⟨x219, h219, hf⟩ := mm_bd_e hf
  refine xr_aldI 220 C h219 dX10_putAll_219 rfl ?_
  refine xr_if_lt 235 223 C dX10_putAll_220 (by decide) rfl (fun hc => ?_) (fun hc => ?_)
  · replace hf := (if_pos hc).symm.trans hf
    exact w_X10_putAll_235 C hf ko
  · replace hf := (if_neg hc).symm.trans hf
    exact w_X10_putAll_223 C hf ko
noncomputable def f_X10_putAll_241 (M : mm_M) : Option (Int32 × mm_M) :=
  some (1, M)
set_option maxRecDepth 20000 in
theorem w_X10_putAll_241 {g : mm_c} (C : mm_ok g cX10_putAll "LessonCardsModel" (some .boolean) "putAll" 8 0 0 0 0) {M : mm_M} {res : Int32 × mm_M} (hf : f_X10_putAll_241 M = some res) (ko : (fun z => mm_q g 0 0 (some (mm_i z.1)) z.2) res) : mm_X g 0 0 M 241 [] [] := by
  unfold f_X10_putAll_241 at hf
  refine xr_iconst 242 C (v := 1) dX10_putAll_241 (by decide) rfl ?_
  obtain rfl := Option.some.inj hf
  exact xr_zret C (by decide) ko ⟨(Nat.le_of_ble_eq_true rfl), (Nat.le_of_ble_eq_true rfl)⟩ dX10_putAll_242
noncomputable def f_X10_putAll_205 (M : mm_M) (v0 : Option Nat) (v4 : Int32) : Option (Int32 ⊕ (Int32 × mm_M)) :=
  if 480 ≤ v4 then mm_mp (f_X10_putAll_241 M) else f_X10_putAll_213 M v0 v4
set_option maxRecDepth 20000 in
theorem w_X10_putAll_205 {g : mm_c} (C : mm_ok g cX10_putAll "LessonCardsModel" (some .boolean) "putAll" 8 0 0 0 0) {M : mm_M} {v0 : Option Nat} {v4 : Int32} {res : Int32 ⊕ (Int32 × mm_M)} (hf : f_X10_putAll_205 M v0 v4 = some res) (ko : (mm_o (h_X10_putAll_205 g M v0) (fun z => mm_q g 0 0 (some (mm_i z.1)) z.2)) res) : mm_X g 0 0 M 205 [(0, mm_r v0), (4, mm_i v4)] [] := by
  unfold f_X10_putAll_205 at hf
  refine xr_iload 207 1 C dX10_putAll_205 rfl rfl ?_
  refine xr_sipush 210 C (v := 480) dX10_putAll_207 (by decide) rfl ?_
  refine xr_icmp_ge 241 213 C dX10_putAll_210 (by decide) rfl (fun hc => ?_) (fun hc => ?_)
  · replace hf := (if_pos hc).symm.trans hf
    refine xr_sub [] (lv2 := []) rfl ?_
    obtain ⟨z, hf2, rfl⟩ := mm_mp_e hf
    clear hf
    have hf := hf2
    clear hf2
    exact w_X10_putAll_241 C hf ko
  · replace hf := (if_neg hc).symm.trans hf
    exact w_X10_putAll_213 C hf ko
noncomputable def f_X10_putAll_205w (M : mm_M) (v0 : Option Nat) (v4 : Int32) : Option (Int32 × mm_M) := mm_w (fun x => f_X10_putAll_205 M v0 x) v4
theorem l_X10_putAll_205 {g : mm_c} (C : mm_ok g cX10_putAll "LessonCardsModel" (some .boolean) "putAll" 8 0 0 0 0) {M : mm_M} {v0 : Option Nat} {v4 : Int32} {res : Int32 × mm_M} (hf : f_X10_putAll_205w M v0 v4 = some res) (ko : (fun z => mm_q g 0 0 (some (mm_i z.1)) z.2) res) : mm_X g 0 0 M 205 [(0, mm_r v0), (4, mm_i v4)] [] :=
  mm_w_W (body := fun x => f_X10_putAll_205 M v0 x) (Wh := h_X10_putAll_205 g M v0) (ok := (fun z => mm_q g 0 0 (some (mm_i z.1)) z.2)) (x := v4) (fun x r hb ho => w_X10_putAll_205 C hb ho) hf ko
noncomputable def f_X10_putAll_202 (M : mm_M) (v0 : Option Nat) : Option (Int32 × mm_M) :=
  f_X10_putAll_205w M v0 0
set_option maxRecDepth 20000 in
theorem w_X10_putAll_202 {g : mm_c} (C : mm_ok g cX10_putAll "LessonCardsModel" (some .boolean) "putAll" 8 0 0 0 0) {M : mm_M} {v0 : Option Nat} {res : Int32 × mm_M} (hf : f_X10_putAll_202 M v0 = some res) (ko : (fun z => mm_q g 0 0 (some (mm_i z.1)) z.2) res) : mm_X g 0 0 M 202 [(0, mm_r v0)] [] := by
  unfold f_X10_putAll_202 at hf
  refine xr_iconst 203 C (v := 0) dX10_putAll_202 (by decide) rfl ?_
  refine xr_istore 205 C dX10_putAll_203 (by decide) rfl [(4, mm_i 0), (0, mm_r v0)] rfl ?_
  refine xr_sub [1, 0] (lv2 := [(0, mm_r v0), (4, mm_i 0)]) rfl ?_
  exact l_X10_putAll_205 C hf ko
noncomputable def f_X10_putAll_28 (M : mm_M) (v0 : Option Nat) (v2 : Int32) (v3 : Int32) (v4 : Int32) : Option ((mm_M × Int32) ⊕ (Int32 × mm_M)) :=
  if 80 < v4 then mm_mp (f_X10_putAll_202 M v0) else f_X10_putAll_35 M v0 v2 v3 v4
set_option maxRecDepth 20000 in
theorem w_X10_putAll_28 {g : mm_c} (C : mm_ok g cX10_putAll "LessonCardsModel" (some .boolean) "putAll" 8 0 0 0 0) {M : mm_M} {v0 : Option Nat} {v2 : Int32} {v3 : Int32} {v4 : Int32} {res : (mm_M × Int32) ⊕ (Int32 × mm_M)} (hf : f_X10_putAll_28 M v0 v2 v3 v4 = some res) (ko : (mm_o (h_X10_putAll_28 g v0 v2 v3) (fun z => mm_q g 0 0 (some (mm_i z.1)) z.2)) res) : mm_X g 0 0 M 28 [(0, mm_r v0), (2, mm_i v2), (3, mm_i v3), (4, mm_i v4)] [] := by
  unfold f_X10_putAll_28 at hf
  refine xr_iload 30 3 C dX10_putAll_28 rfl rfl ?_
  refine xr_bipush 32 C (v := 80) dX10_putAll_30 (by decide) rfl ?_
  refine xr_icmp_gt 202 35 C dX10_putAll_32 (by decide) rfl (fun hc => ?_) (fun hc => ?_)
  · replace hf := (if_pos hc).symm.trans hf
    refine xr_sub [0] (lv2 := [(0, mm_r v0)]) rfl ?_
    obtain ⟨z, hf2, rfl⟩ := mm_mp_e hf
    clear hf
    have hf := hf2
    clear hf2
    exact w_X10_putAll_202 C hf ko
  · replace hf := (if_neg hc).symm.trans hf
    exact w_X10_putAll_35 C hf ko
noncomputable def f_X10_putAll_28w (M : mm_M) (v0 : Option Nat) (v2 : Int32) (v3 : Int32) (v4 : Int32) : Option (Int32 × mm_M) := mm_w (fun x => f_X10_putAll_28 x.1 v0 v2 v3 x.2) (M, v4)
theorem l_X10_putAll_28 {g : mm_c} (C : mm_ok g cX10_putAll "LessonCardsModel" (some .boolean) "putAll" 8 0 0 0 0) {M : mm_M} {v0 : Option Nat} {v2 : Int32} {v3 : Int32} {v4 : Int32} {res : Int32 × mm_M} (hf : f_X10_putAll_28w M v0 v2 v3 v4 = some res) (ko : (fun z => mm_q g 0 0 (some (mm_i z.1)) z.2) res) : mm_X g 0 0 M 28 [(0, mm_r v0), (2, mm_i v2), (3, mm_i v3), (4, mm_i v4)] [] :=
  mm_w_W (body := fun x => f_X10_putAll_28 x.1 v0 v2 v3 x.2) (Wh := h_X10_putAll_28 g v0 v2 v3) (ok := (fun z => mm_q g 0 0 (some (mm_i z.1)) z.2)) (x := (M, v4)) (fun x r hb ho => w_X10_putAll_28 C hb ho) hf ko
noncomputable def f_X10_putAll_25 (M : mm_M) (v0 : Option Nat) (v2 : Int32) (v3 : Int32) : Option (Int32 × mm_M) :=
  f_X10_putAll_28w M v0 v2 v3 0
set_option maxRecDepth 20000 in
theorem w_X10_putAll_25 {g : mm_c} (C : mm_ok g cX10_putAll "LessonCardsModel" (some .boolean) "putAll" 8 0 0 0 0) {M : mm_M} {v0 : Option Nat} {v2 : Int32} {v3 : Int32} {res : Int32 × mm_M} (hf : f_X10_putAll_25 M v0 v2 v3 = some res) (ko : (fun z => mm_q g 0 0 (some (mm_i z.1)) z.2) res) : mm_X g 0 0 M 25 [(0, mm_r v0), (2, mm_i v2), (3, mm_i v3)] [] := by
  unfold f_X10_putAll_25 at hf
  refine xr_iconst 26 C (v := 0) dX10_putAll_25 (by decide) rfl ?_
  refine xr_istore 28 C dX10_putAll_26 (by decide) rfl [(4, mm_i 0), (0, mm_r v0), (2, mm_i v2), (3, mm_i v3)] rfl ?_
  refine xr_sub [1, 2, 3, 0] (lv2 := [(0, mm_r v0), (2, mm_i v2), (3, mm_i v3), (4, mm_i 0)]) rfl ?_
  exact l_X10_putAll_28 C hf ko
noncomputable def f_X10_putAll_3 (M : mm_M) (v0 : Option Nat) (v2 : Int32) (v3 : Int32) (v4 : Int32) : Option ((mm_M × Int32) ⊕ (Int32 × mm_M)) :=
  if 480 ≤ v4 then mm_mp (f_X10_putAll_25 M v0 v2 v3) else f_X10_putAll_11 M v0 v2 v3 v4
set_option maxRecDepth 20000 in
theorem w_X10_putAll_3 {g : mm_c} (C : mm_ok g cX10_putAll "LessonCardsModel" (some .boolean) "putAll" 8 0 0 0 0) {M : mm_M} {v0 : Option Nat} {v2 : Int32} {v3 : Int32} {v4 : Int32} {res : (mm_M × Int32) ⊕ (Int32 × mm_M)} (hf : f_X10_putAll_3 M v0 v2 v3 v4 = some res) (ko : (mm_o (h_X10_putAll_3 g v0 v2 v3) (fun z => mm_q g 0 0 (some (mm_i z.1)) z.2)) res) : mm_X g 0 0 M 3 [(0, mm_r v0), (2, mm_i v2), (3, mm_i v3), (4, mm_i v4)] [] := by
  unfold f_X10_putAll_3 at hf
  refine xr_iload 5 3 C dX10_putAll_3 rfl rfl ?_
  refine xr_sipush 8 C (v := 480) dX10_putAll_5 (by decide) rfl ?_
  refine xr_icmp_ge 25 11 C dX10_putAll_8 (by decide) rfl (fun hc => ?_) (fun hc => ?_)
  · replace hf := (if_pos hc).symm.trans hf
    refine xr_sub [0, 1, 2] (lv2 := [(0, mm_r v0), (2, mm_i v2), (3, mm_i v3)]) rfl ?_
    obtain ⟨z, hf2, rfl⟩ := mm_mp_e hf
    clear hf
    have hf := hf2
    clear hf2
    exact w_X10_putAll_25 C hf ko
  · replace hf := (if_neg hc).symm.trans hf
    exact w_X10_putAll_11 C hf ko
noncomputable def f_X10_putAll_3w (M : mm_M) (v0 : Option Nat) (v2 : Int32) (v3 : Int32) (v4 : Int32) : Option (Int32 × mm_M) := mm_w (fun x => f_X10_putAll_3 x.1 v0 v2 v3 x.2) (M, v4)
theorem l_X10_putAll_3 {g : mm_c} (C : mm_ok g cX10_putAll "LessonCardsModel" (some .boolean) "putAll" 8 0 0 0 0) {M : mm_M} {v0 : Option Nat} {v2 : Int32} {v3 : Int32} {v4 : Int32} {res : Int32 × mm_M} (hf : f_X10_putAll_3w M v0 v2 v3 v4 = some res) (ko : (fun z => mm_q g 0 0 (some (mm_i z.1)) z.2) res) : mm_X g 0 0 M 3 [(0, mm_r v0), (2, mm_i v2), (3, mm_i v3), (4, mm_i v4)] [] :=
  mm_w_W (body := fun x => f_X10_putAll_3 x.1 v0 v2 v3 x.2) (Wh := h_X10_putAll_3 g v0 v2 v3) (ok := (fun z => mm_q g 0 0 (some (mm_i z.1)) z.2)) (x := (M, v4)) (fun x r hb ho => w_X10_putAll_3 C hb ho) hf ko
noncomputable def f_X10_putAll_0 (M : mm_M) (v0 : Option Nat) (v2 : Int32) (v3 : Int32) : Option (Int32 × mm_M) :=
  f_X10_putAll_3w M v0 v2 v3 0
set_option maxRecDepth 20000 in
theorem w_X10_putAll_0 {g : mm_c} (C : mm_ok g cX10_putAll "LessonCardsModel" (some .boolean) "putAll" 8 0 0 0 0) {M : mm_M} {v0 : Option Nat} {v2 : Int32} {v3 : Int32} {res : Int32 × mm_M} (hf : f_X10_putAll_0 M v0 v2 v3 = some res) (ko : (fun z => mm_q g 0 0 (some (mm_i z.1)) z.2) res) : mm_X g 0 0 M 0 [(0, mm_r v0), (2, mm_i v2), (3, mm_i v3)] [] := by
  unfold f_X10_putAll_0 at hf
  refine xr_iconst 1 C (v := 0) dX10_putAll_0 (by decide) rfl ?_
  refine xr_istore 3 C dX10_putAll_1 (by decide) rfl [(4, mm_i 0), (0, mm_r v0), (2, mm_i v2), (3, mm_i v3)] rfl ?_
  refine xr_sub [1, 2, 3, 0] (lv2 := [(0, mm_r v0), (2, mm_i v2), (3, mm_i v3), (4, mm_i 0)]) rfl ?_
  exact l_X10_putAll_3 C hf ko
noncomputable def f_X10_putAll (M : mm_M) (v0 : Option Nat) (v1 : Int32) (v2 : Int32) (v3 : Int32) : Option (Int32 × mm_M) := f_X10_putAll_0 M v0 v2 v3
theorem c_X10_putAll (l : Launch) (G : va_G) (cy : Nat → ClassId) {M : mm_M} {v0 : Option Nat} {v1 : Int32} {v2 : Int32} {v3 : Int32} {r : Int32} {M1 : mm_M} (hf : f_X10_putAll M v0 v1 v2 v3 = some (r, M1)) : mm_Met l yX10_putAll cX10_putAll 8 (some .boolean) 0 0 0 0 G cy [mm_r v0, mm_i v1, mm_i v2, mm_i v3] M (some (mm_i r)) M1 :=
  mm_enter (by decide) (Nat.le_of_ble_eq_true rfl) (fun p e R s m args below meth c Q C hq => xr_sub [0, 2, 3] (lv2 := [(0, mm_r v0), (2, mm_i v2), (3, mm_i v3)]) rfl (w_X10_putAll_0 C hf hq))
