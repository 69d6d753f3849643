def h_X10_even_163 (g : mm_c) (v0 : Option Nat) (v1 : Int32) (v2 : Int32) : (mm_M × Int32 × Int32) → Prop := fun x => mm_X g 0 0 x.1 163 [(0, mm_r v0), (1, mm_i v1), (2, mm_i v2), (4, mm_i x.2.1), (5, mm_i x.2.2)] []
def h_X10_even_24 (g : mm_c) (v0 : Option Nat) (v1 : Int32) (v2 : Int32) : (mm_M × Int32 × Int32) → Prop := fun x => mm_X g 0 0 x.1 24 [(0, mm_r v0), (1, mm_i v1), (2, mm_i v2), (3, mm_i x.2.1), (4, mm_i x.2.2)] []
noncomputable def f_X10_even_17 (M : mm_M) : Option (Int32 × mm_M) :=
  some ((-1), M)
set_option maxRecDepth 20000 in
theorem w_X10_even_17 {g : mm_c} (C : mm_ok g cX10_even "LessonCardsModel" (some .int) "even" 8 3 70 0 0) {M : mm_M} {res : Int32 × mm_M} (hf : f_X10_even_17 M = some res) (ko : (fun z => mm_q g 0 0 (some (mm_i z.1)) z.2) res) : mm_X g 0 0 M 17 [] [] := by
  unfold f_X10_even_17 at hf
  refine xr_iconst 18 C (v := (-1)) dX10_even_17 (by decide) rfl ?_
  obtain rfl := Option.some.inj hf
  exact xr_iret C ko ⟨(Nat.le_of_ble_eq_true rfl), (Nat.le_of_ble_eq_true rfl)⟩ dX10_even_18
noncomputable def f_X10_even_144 (M : mm_M) (v0 : Option Nat) (v1 : Int32) (v2 : Int32) (v3 : Int32) (v4 : Int32) : Option ((mm_M × Int32 × Int32) ⊕ (Int32 × mm_M)) :=
  some (.inl (M, v3, (v4 + 1)))
set_option maxRecDepth 20000 in
theorem w_X10_even_144 {g : mm_c} (C : mm_ok g cX10_even "LessonCardsModel" (some .int) "even" 8 3 70 0 0) {M : mm_M} {v0 : Option Nat} {v1 : Int32} {v2 : Int32} {v3 : Int32} {v4 : Int32} {res : (mm_M × Int32 × Int32) ⊕ (Int32 × mm_M)} (hf : f_X10_even_144 M v0 v1 v2 v3 v4 = some res) (ko : (mm_o (h_X10_even_24 g v0 v1 v2) (fun z => mm_q g 0 0 (some (mm_i z.1)) z.2)) res) : mm_X g 0 0 M 144 [(0, mm_r v0), (1, mm_i v1), (2, mm_i v2), (3, mm_i v3), (4, mm_i v4)] [] := by
  unfold f_X10_even_144 at hf
  refine xr_iinc 147 4 C dX10_even_144 rfl (by decide) (v := 1) (by decide) rfl [(4, mm_i (v4 + 1)), (0, mm_r v0), (1, mm_i v1), (2, mm_i v2), (3, mm_i v3)] rfl ?_
  refine xr_goto 24 C dX10_even_147 (by decide) ?_
  refine xr_sub [1, 2, 3, 4, 0] (lv2 := [(0, mm_r v0), (1, mm_i v1), (2, mm_i v2), (3, mm_i v3), (4, mm_i (v4 + 1))]) rfl ?_
  obtain rfl := Option.some.inj hf
  exact ko
noncomputable def f_X10_even_142 (M : mm_M) (v0 : Option Nat) (v1 : Int32) (v2 : Int32) (v4 : Int32) (s0 : Int32) (s1 : Int32) : Option ((mm_M × Int32 × Int32) ⊕ (Int32 × mm_M)) :=
  f_X10_even_144 M v0 v1 v2 (s0 + s1) v4
set_option maxRecDepth 20000 in
theorem w_X10_even_142 {g : mm_c} (C : mm_ok g cX10_even "LessonCardsModel" (some .int) "even" 8 3 70 0 0) {M : mm_M} {v0 : Option Nat} {v1 : Int32} {v2 : Int32} {v4 : Int32} {s0 : Int32} {s1 : Int32} {res : (mm_M × Int32 × Int32) ⊕ (Int32 × mm_M)} (hf : f_X10_even_142 M v0 v1 v2 v4 s0 s1 = some res) (ko : (mm_o (h_X10_even_24 g v0 v1 v2) (fun z => mm_q g 0 0 (some (mm_i z.1)) z.2)) res) : mm_X g 0 0 M 142 [(0, mm_r v0), (1, mm_i v1), (2, mm_i v2), (4, mm_i v4)] [mm_i s1, mm_i s0] := by
  unfold f_X10_even_142 at hf
  refine xr_iadd 143 C dX10_even_142 rfl ?_
  refine xr_istore_n 144 C dX10_even_143 rfl (by decide) rfl [(3, mm_i (s0 + s1)), (0, mm_r v0), (1, mm_i v1), (2, mm_i v2), (4, mm_i v4)] rfl ?_
  refine xr_sub [1, 2, 3, 0, 4] (lv2 := [(0, mm_r v0), (1, mm_i v1), (2, mm_i v2), (3, mm_i (s0 + s1)), (4, mm_i v4)]) rfl ?_
  exact w_X10_even_144 C hf ko
noncomputable def f_X10_even_137 (M : mm_M) (v0 : Option Nat) (v1 : Int32) (v2 : Int32) (v4 : Int32) (s0 : Int32) : Option ((mm_M × Int32 × Int32) ⊕ (Int32 × mm_M)) :=
  f_X10_even_142 M v0 v1 v2 v4 s0 0
set_option maxRecDepth 20000 in
theorem w_X10_even_137 {g : mm_c} (C : mm_ok g cX10_even "LessonCardsModel" (some .int) "even" 8 3 70 0 0) {M : mm_M} {v0 : Option Nat} {v1 : Int32} {v2 : Int32} {v4 : Int32} {s0 : Int32} {res : (mm_M × Int32 × Int32) ⊕ (Int32 × mm_M)} (hf : f_X10_even_137 M v0 v1 v2 v4 s0 = some res) (ko : (mm_o (h_X10_even_24 g v0 v1 v2) (fun z => mm_q g 0 0 (some (mm_i z.1)) z.2)) res) : mm_X g 0 0 M 137 [(0, mm_r v0), (1, mm_i v1), (2, mm_i v2), (4, mm_i v4)] [mm_i s0] := by
  unfold f_X10_even_137 at hf
  refine xr_iconst 138 C (v := 0) dX10_even_137 (by decide) rfl ?_
  refine xr_goto 142 C dX10_even_138 (by decide) ?_
  exact w_X10_even_142 C hf ko
noncomputable def f_X10_even_141 (M : mm_M) (v0 : Option Nat) (v1 : Int32) (v2 : Int32) (v4 : Int32) (s0 : Int32) : Option ((mm_M × Int32 × Int32) ⊕ (Int32 × mm_M)) :=
  f_X10_even_142 M v0 v1 v2 v4 s0 1
set_option maxRecDepth 20000 in
theorem w_X10_even_141 {g : mm_c} (C : mm_ok g cX10_even "LessonCardsModel" (some .int) "even" 8 3 70 0 0) {M : mm_M} {v0 : Option Nat} {v1 : Int32} {v2 : Int32} {v4 : Int32} {s0 : Int32} {res : (mm_M × Int32 × Int32) ⊕ (Int32 × mm_M)} (hf : f_X10_even_141 M v0 v1 v2 v4 s0 = some res) (ko : (mm_o (h_X10_even_24 g v0 v1 v2) (fun z => mm_q g 0 0 (some (mm_i z.1)) z.2)) res) : mm_X g 0 0 M 141 [(0, mm_r v0), (1, mm_i v1), (2, mm_i v2), (4, mm_i v4)] [mm_i s0] := by
  unfold f_X10_even_141 at hf
  refine xr_iconst 142 C (v := 1) dX10_even_141 (by decide) rfl ?_
  exact w_X10_even_142 C hf ko
noncomputable def f_X10_even_130 (M : mm_M) (v0 : Option Nat) (v1 : Int32) (v2 : Int32) (v3 : Int32) (v4 : Int32) (v5 : Int32) (s0 : Option Nat) (s1 : Int32) (s2 : Int32) : Option ((mm_M × Int32 × Int32) ⊕ (Int32 × mm_M)) :=
  (mm_tI M s0 s1 s2).bind fun M130 =>
  if 0 ≤ v5 then f_X10_even_141 M130 v0 v1 v2 v4 v3 else f_X10_even_137 M130 v0 v1 v2 v4 v3
set_option maxRecDepth 20000 in
theorem w_X10_even_130 {g : mm_c} (C : mm_ok g cX10_even "LessonCardsModel" (some .int) "even" 8 3 70 0 0) {M : mm_M} {v0 : Option Nat} {v1 : Int32} {v2 : Int32} {v3 : Int32} {v4 : Int32} {v5 : Int32} {s0 : Option Nat} {s1 : Int32} {s2 : Int32} {res : (mm_M × Int32 × Int32) ⊕ (Int32 × mm_M)} (hf : f_X10_even_130 M v0 v1 v2 v3 v4 v5 s0 s1 s2 = some res) (ko : (mm_o (h_X10_even_24 g v0 v1 v2) (fun z => mm_q g 0 0 (some (mm_i z.1)) z.2)) res) : mm_X g 0 0 M 130 [(0, mm_r v0), (1, mm_i v1), (2, mm_i v2), (3, mm_i v3), (4, mm_i v4), (5, mm_i v5)] [mm_i s2, mm_i s1, mm_r s0] := by
  unfold f_X10_even_130 at hf
  obtain ⟨M130, h130, hf⟩ := mm_bd_e hf
  refine xr_astI 131 C h130 dX10_even_130 rfl ?_
  refine xr_iload_n 132 3 C dX10_even_131 rfl rfl rfl ?_
  refine xr_iload 134 5 C dX10_even_132 rfl rfl ?_
  refine xr_if_ge 141 137 C dX10_even_134 (by decide) rfl (fun hc => ?_) (fun hc => ?_)
  · replace hf := (if_pos hc).symm.trans hf
    refine xr_sub [0, 1, 2, 4] (lv2 := [(0, mm_r v0), (1, mm_i v1), (2, mm_i v2), (4, mm_i v4)]) rfl ?_
    exact w_X10_even_141 C hf ko
  · replace hf := (if_neg hc).symm.trans hf
    refine xr_sub [0, 1, 2, 4] (lv2 := [(0, mm_r v0), (1, mm_i v1), (2, mm_i v2), (4, mm_i v4)]) rfl ?_
    exact w_X10_even_137 C hf ko
noncomputable def f_X10_even_117 (M : mm_M) (v0 : Option Nat) (v1 : Int32) (v2 : Int32) (v3 : Int32) (v4 : Int32) (v5 : Int32) (s0 : Option Nat) (s1 : Int32) : Option ((mm_M × Int32 × Int32) ⊕ (Int32 × mm_M)) :=
  f_X10_even_130 M v0 v1 v2 v3 v4 v5 s0 s1 (-1)
set_option maxRecDepth 20000 in
theorem w_X10_even_117 {g : mm_c} (C : mm_ok g cX10_even "LessonCardsModel" (some .int) "even" 8 3 70 0 0) {M : mm_M} {v0 : Option Nat} {v1 : Int32} {v2 : Int32} {v3 : Int32} {v4 : Int32} {v5 : Int32} {s0 : Option Nat} {s1 : Int32} {res : (mm_M × Int32 × Int32) ⊕ (Int32 × mm_M)} (hf : f_X10_even_117 M v0 v1 v2 v3 v4 v5 s0 s1 = some res) (ko : (mm_o (h_X10_even_24 g v0 v1 v2) (fun z => mm_q g 0 0 (some (mm_i z.1)) z.2)) res) : mm_X g 0 0 M 117 [(0, mm_r v0), (1, mm_i v1), (2, mm_i v2), (3, mm_i v3), (4, mm_i v4), (5, mm_i v5)] [mm_i s1, mm_r s0] := by
  unfold f_X10_even_117 at hf
  refine xr_iconst 118 C (v := (-1)) dX10_even_117 (by decide) rfl ?_
  refine xr_goto 130 C dX10_even_118 (by decide) ?_
  exact w_X10_even_130 C hf ko
noncomputable def f_X10_even_121 (M : mm_M) (v0 : Option Nat) (v1 : Int32) (v2 : Int32) (v3 : Int32) (v4 : Int32) (v5 : Int32) (s0 : Option Nat) (s1 : Int32) : Option ((mm_M × Int32 × Int32) ⊕ (Int32 × mm_M)) :=
  (mm_fR M v0 11 8).bind fun x124 =>
  (mm_aI M x124 12 v1).bind fun x128 =>
  f_X10_even_130 M v0 v1 v2 v3 v4 v5 s0 s1 (v5 - x128)
set_option maxRecDepth 20000 in
theorem w_X10_even_121 {g : mm_c} (C : mm_ok g cX10_even "LessonCardsModel" (some .int) "even" 8 3 70 0 0) {M : mm_M} {v0 : Option Nat} {v1 : Int32} {v2 : Int32} {v3 : Int32} {v4 : Int32} {v5 : Int32} {s0 : Option Nat} {s1 : Int32} {res : (mm_M × Int32 × Int32) ⊕ (Int32 × mm_M)} (hf : f_X10_even_121 M v0 v1 v2 v3 v4 v5 s0 s1 = some res) (ko : (mm_o (h_X10_even_24 g v0 v1 v2) (fun z => mm_q g 0 0 (some (mm_i z.1)) z.2)) res) : mm_X g 0 0 M 121 [(0, mm_r v0), (1, mm_i v1), (2, mm_i v2), (3, mm_i v3), (4, mm_i v4), (5, mm_i v5)] [mm_i s1, mm_r s0] := by
  unfold f_X10_even_121 at hf
  refine xr_iload 123 5 C dX10_even_121 rfl rfl ?_
  refine xr_aload_n 124 0 C dX10_even_123 rfl rfl rfl ?_
  obtain ⟨x124, h124, hf⟩ := mm_bd_e hf
  refine xr_getR 127 C cf_X10_29 rfl h124 dX10_even_124 rfl ?_
  refine xr_iload_n 128 1 C dX10_even_127 rfl rfl rfl ?_
  obtain ⟨x128, h128, hf⟩ := mm_bd_e hf
  refine xr_aldI 129 C h128 dX10_even_128 rfl ?_
  refine xr_isub 130 C dX10_even_129 rfl ?_
  exact w_X10_even_130 C hf ko
noncomputable def f_X10_even_104 (M : mm_M) (v0 : Option Nat) (v1 : Int32) (v2 : Int32) (v3 : Int32) (v4 : Int32) (s0 : Int32) : Option ((mm_M × Int32 × Int32) ⊕ (Int32 × mm_M)) :=
  (mm_fR M v0 11 34).bind fun x107 =>
  if 0 ≤ s0 then f_X10_even_121 M v0 v1 v2 v3 v4 s0 x107 v4 else f_X10_even_117 M v0 v1 v2 v3 v4 s0 x107 v4
set_option maxRecDepth 20000 in
theorem w_X10_even_104 {g : mm_c} (C : mm_ok g cX10_even "LessonCardsModel" (some .int) "even" 8 3 70 0 0) {M : mm_M} {v0 : Option Nat} {v1 : Int32} {v2 : Int32} {v3 : Int32} {v4 : Int32} {s0 : Int32} {res : (mm_M × Int32 × Int32) ⊕ (Int32 × mm_M)} (hf : f_X10_even_104 M v0 v1 v2 v3 v4 s0 = some res) (ko : (mm_o (h_X10_even_24 g v0 v1 v2) (fun z => mm_q g 0 0 (some (mm_i z.1)) z.2)) res) : mm_X g 0 0 M 104 [(0, mm_r v0), (1, mm_i v1), (2, mm_i v2), (3, mm_i v3), (4, mm_i v4)] [mm_i s0] := by
  unfold f_X10_even_104 at hf
  refine xr_istore 106 C dX10_even_104 (by decide) rfl [(5, mm_i s0), (0, mm_r v0), (1, mm_i v1), (2, mm_i v2), (3, mm_i v3), (4, mm_i v4)] rfl ?_
  refine xr_aload_n 107 1 C dX10_even_106 rfl rfl rfl ?_
  obtain ⟨x107, h107, hf⟩ := mm_bd_e hf
  refine xr_getR 110 C cf_X10_90 rfl h107 dX10_even_107 rfl ?_
  refine xr_iload 112 5 C dX10_even_110 rfl rfl ?_
  refine xr_iload 114 0 C dX10_even_112 rfl rfl ?_
  refine xr_if_ge 121 117 C dX10_even_114 (by decide) rfl (fun hc => ?_) (fun hc => ?_)
  · replace hf := (if_pos hc).symm.trans hf
    refine xr_sub [1, 2, 3, 4, 5, 0] (lv2 := [(0, mm_r v0), (1, mm_i v1), (2, mm_i v2), (3, mm_i v3), (4, mm_i v4), (5, mm_i s0)]) rfl ?_
    exact w_X10_even_121 C hf ko
  · replace hf := (if_neg hc).symm.trans hf
    refine xr_sub [1, 2, 3, 4, 5, 0] (lv2 := [(0, mm_r v0), (1, mm_i v1), (2, mm_i v2), (3, mm_i v3), (4, mm_i v4), (5, mm_i s0)]) rfl ?_
    exact w_X10_even_117 C hf ko
noncomputable def f_X10_even_81 (M : mm_M) (v0 : Option Nat) (v1 : Int32) (v2 : Int32) (v3 : Int32) (v4 : Int32) : Option ((mm_M × Int32 × Int32) ⊕ (Int32 × mm_M)) :=
  f_X10_even_104 M v0 v1 v2 v3 v4 (-1)
set_option maxRecDepth 20000 in
theorem w_X10_even_81 {g : mm_c} (C : mm_ok g cX10_even "LessonCardsModel" (some .int) "even" 8 3 70 0 0) {M : mm_M} {v0 : Option Nat} {v1 : Int32} {v2 : Int32} {v3 : Int32} {v4 : Int32} {res : (mm_M × Int32 × Int32) ⊕ (Int32 × mm_M)} (hf : f_X10_even_81 M v0 v1 v2 v3 v4 = some res) (ko : (mm_o (h_X10_even_24 g v0 v1 v2) (fun z => mm_q g 0 0 (some (mm_i z.1)) z.2)) res) : mm_X g 0 0 M 81 [(0, mm_r v0), (1, mm_i v1), (2, mm_i v2), (3, mm_i v3), (4, mm_i v4)] [] := by
  unfold f_X10_even_81 at hf
  refine xr_iconst 82 C (v := (-1)) dX10_even_81 (by decide) rfl ?_
  refine xr_goto 104 C dX10_even_82 (by decide) ?_
  exact w_X10_even_104 C hf ko
noncomputable def f_X10_even_85 (M : mm_M) (v0 : Option Nat) (v1 : Int32) (v2 : Int32) (v3 : Int32) (v4 : Int32) : Option ((mm_M × Int32 × Int32) ⊕ (Int32 × mm_M)) :=
  (mm_fR M v0 11 8).bind fun x87 =>
  (mm_aI M x87 12 v1).bind fun x91 =>
  (mm_fR M v0 11 8).bind fun x93 =>
  (mm_aI M x93 12 v1).bind fun x97 =>
  (mm_rc M v0 11).bind fun u101 =>
  (f_X10_firstDue M v0 x91 (x97 + 60)).bind fun x101 =>
  f_X10_even_104 M v0 v1 v2 v3 v4 x101
set_option maxRecDepth 20000 in
theorem w_X10_even_85 {g : mm_c} (C : mm_ok g cX10_even "LessonCardsModel" (some .int) "even" 8 3 70 0 0) {M : mm_M} {v0 : Option Nat} {v1 : Int32} {v2 : Int32} {v3 : Int32} {v4 : Int32} {res : (mm_M × Int32 × Int32) ⊕ (Int32 × mm_M)} (hf : f_X10_even_85 M v0 v1 v2 v3 v4 = some res) (ko : (mm_o (h_X10_even_24 g v0 v1 v2) (fun z => mm_q g 0 0 (some (mm_i z.1)) z.2)) res) : mm_X g 0 0 M 85 [(0, mm_r v0), (1, mm_i v1), (2, mm_i v2), (3, mm_i v3), (4, mm_i v4)] [] := by
  unfold f_X10_even_85 at hf
  refine xr_aload_n 86 0 C dX10_even_85 rfl rfl rfl ?_
  refine xr_aload_n 87 0 C dX10_even_86 rfl rfl rfl ?_
  obtain ⟨x87, h87, hf⟩ := mm_bd_e hf
  refine xr_getR 90 C cf_X10_29 rfl h87 dX10_even_87 rfl ?_
  refine xr_iload_n 91 1 C dX10_even_90 rfl rfl rfl ?_
  obtain ⟨x91, h91, hf⟩ := mm_bd_e hf
  refine xr_aldI 92 C h91 dX10_even_91 rfl ?_
  refine xr_aload_n 93 0 C dX10_even_92 rfl rfl rfl ?_
  obtain ⟨x93, h93, hf⟩ := mm_bd_e hf
  refine xr_getR 96 C cf_X10_29 rfl h93 dX10_even_93 rfl ?_
  refine xr_iload_n 97 1 C dX10_even_96 rfl rfl rfl ?_
  obtain ⟨x97, h97, hf⟩ := mm_bd_e hf
  refine xr_aldI 98 C h97 dX10_even_97 rfl ?_
  refine xr_bipush 100 C (v := 60) dX10_even_98 (by decide) rfl ?_
  refine xr_iadd 101 C dX10_even_100 rfl ?_
  obtain ⟨u101, g101, hf⟩ := mm_bd_e hf
  obtain ⟨x101, h101, hf⟩ := mm_bd_e hf
  refine xr_callV 104 C [mm_i x91, mm_i (x97 + 60)] cm_X10_223 (fun l G cy => c_X10_firstDue l G cy h101) g101 rfl rfl ⟨⟨Nat.le_of_ble_eq_true rfl, Nat.le_of_ble_eq_true rfl⟩, (Nat.le_of_ble_eq_true rfl), (Nat.le_of_ble_eq_true rfl)⟩ (Nat.le_of_ble_eq_true rfl) dX10_even_101 rfl ?_
  exact w_X10_even_104 C hf ko
noncomputable def f_X10_even_74 (M : mm_M) (v0 : Option Nat) (v1 : Int32) (v2 : Int32) (v3 : Int32) (v4 : Int32) : Option ((mm_M × Int32 × Int32) ⊕ (Int32 × mm_M)) :=
  (mm_rc M v0 11).bind fun u75 =>
  (f_X10_isLeech M v0).bind fun x75 =>
  if x75 = 0 then f_X10_even_85 M v0 v1 v2 v3 v4 else f_X10_even_81 M v0 v1 v2 v3 v4
set_option maxRecDepth 20000 in
theorem w_X10_even_74 {g : mm_c} (C : mm_ok g cX10_even "LessonCardsModel" (some .int) "even" 8 3 70 0 0) {M : mm_M} {v0 : Option Nat} {v1 : Int32} {v2 : Int32} {v3 : Int32} {v4 : Int32} {res : (mm_M × Int32 × Int32) ⊕ (Int32 × mm_M)} (hf : f_X10_even_74 M v0 v1 v2 v3 v4 = some res) (ko : (mm_o (h_X10_even_24 g v0 v1 v2) (fun z => mm_q g 0 0 (some (mm_i z.1)) z.2)) res) : mm_X g 0 0 M 74 [(0, mm_r v0), (1, mm_i v1), (2, mm_i v2), (3, mm_i v3), (4, mm_i v4)] [] := by
  unfold f_X10_even_74 at hf
  refine xr_aload_n 75 0 C dX10_even_74 rfl rfl rfl ?_
  obtain ⟨u75, g75, hf⟩ := mm_bd_e hf
  obtain ⟨x75, h75, hf⟩ := mm_bd_e hf
  refine xr_callV 78 C [] cm_X10_176 (fun l G cy => c_X10_isLeech l G cy h75) g75 rfl rfl ⟨⟨Nat.le_of_ble_eq_true rfl, Nat.le_of_ble_eq_true rfl⟩, (Nat.le_of_ble_eq_true rfl), (Nat.le_of_ble_eq_true rfl)⟩ (Nat.le_of_ble_eq_true rfl) dX10_even_75 rfl ?_
  refine xr_if_eq 85 81 C dX10_even_78 (by decide) rfl (fun hc => ?_) (fun hc => ?_)
  · replace hf := (if_pos hc).symm.trans hf
    exact w_X10_even_85 C hf ko
  · replace hf := (if_neg hc).symm.trans hf
    exact w_X10_even_81 C hf ko
noncomputable def f_X10_even_55 (M : mm_M) (v0 : Option Nat) (v1 : Int32) (v2 : Int32) (v3 : Int32) (v4 : Int32) : Option ((mm_M × Int32 × Int32) ⊕ (Int32 × mm_M)) :=
  (mm_rc M v0 11).bind fun u64 =>
  (f_X10_take M v0 ((v1 * 480) + v4)).bind fun M64 =>
  (mm_fI M64 v0 11 29).bind fun x68 =>
  if x68 = 0 then f_X10_even_81 M64 v0 v1 v2 v3 v4 else f_X10_even_74 M64 v0 v1 v2 v3 v4
set_option maxRecDepth 20000 in
theorem w_X10_even_55 {g : mm_c} (C : mm_ok g cX10_even "LessonCardsModel" (some .int) "even" 8 3 70 0 0) {M : mm_M} {v0 : Option Nat} {v1 : Int32} {v2 : Int32} {v3 : Int32} {v4 : Int32} {res : (mm_M × Int32 × Int32) ⊕ (Int32 × mm_M)} (hf : f_X10_even_55 M v0 v1 v2 v3 v4 = some res) (ko : (mm_o (h_X10_even_24 g v0 v1 v2) (fun z => mm_q g 0 0 (some (mm_i z.1)) z.2)) res) : mm_X g 0 0 M 55 [(0, mm_r v0), (1, mm_i v1), (2, mm_i v2), (3, mm_i v3), (4, mm_i v4)] [] := by
  unfold f_X10_even_55 at hf
  refine xr_aload_n 56 0 C dX10_even_55 rfl rfl rfl ?_
  refine xr_iload_n 57 1 C dX10_even_56 rfl rfl rfl ?_
  refine xr_sipush 60 C (v := 480) dX10_even_57 (by decide) rfl ?_
  refine xr_imul 61 C dX10_even_60 rfl ?_
  refine xr_iload 63 4 C dX10_even_61 rfl rfl ?_
  refine xr_iadd 64 C dX10_even_63 rfl ?_
  obtain ⟨u64, g64, hf⟩ := mm_bd_e hf
  obtain ⟨M64, h64, hf⟩ := mm_bd_e hf
  refine xr_callV 67 C [mm_i ((v1 * 480) + v4)] cm_X10_180 (fun l G cy => c_X10_take l G cy h64) g64 rfl rfl ⟨⟨Nat.le_of_ble_eq_true rfl, Nat.le_of_ble_eq_true rfl⟩, (Nat.le_of_ble_eq_true rfl), (Nat.le_of_ble_eq_true rfl)⟩ (Nat.le_of_ble_eq_true rfl) dX10_even_64 rfl ?_
  refine xr_aload_n 68 0 C dX10_even_67 rfl rfl rfl ?_
  obtain ⟨x68, h68, hf⟩ := mm_bd_e hf
  refine xr_getI 71 C cf_X10_135 rfl h68 dX10_even_68 rfl ?_
  refine xr_if_eq 81 74 C dX10_even_71 (by decide) rfl (fun hc => ?_) (fun hc => ?_)
  · replace hf := (if_pos hc).symm.trans hf
    exact w_X10_even_81 C hf ko
  · replace hf := (if_neg hc).symm.trans hf
    exact w_X10_even_74 C hf ko
noncomputable def f_X10_even_32 (M : mm_M) (v0 : Option Nat) (v1 : Int32) (v2 : Int32) (v3 : Int32) (v4 : Int32) : Option ((mm_M × Int32 × Int32) ⊕ (Int32 × mm_M)) :=
  (mm_fR M v0 11 34).bind fun x33 =>
  (mm_tI M x33 v4 (-1)).bind fun M39 =>
  (mm_rc M39 v0 11).bind fun u49 =>
  (f_X10_isSide M39 v0 (v4 / 4) (v4 - v4 / 4 * 4)).bind fun x49 =>
  if x49 = 0 then f_X10_even_144 M39 v0 v1 v2 v3 v4 else f_X10_even_55 M39 v0 v1 v2 v3 v4
set_option maxRecDepth 20000 in
theorem w_X10_even_32 {g : mm_c} (C : mm_ok g cX10_even "LessonCardsModel" (some .int) "even" 8 3 70 0 0) {M : mm_M} {v0 : Option Nat} {v1 : Int32} {v2 : Int32} {v3 : Int32} {v4 : Int32} {res : (mm_M × Int32 × Int32) ⊕ (Int32 × mm_M)} (hf : f_X10_even_32 M v0 v1 v2 v3 v4 = some res) (ko : (mm_o (h_X10_even_24 g v0 v1 v2) (fun z => mm_q g 0 0 (some (mm_i z.1)) z.2)) res) : mm_X g 0 0 M 32 [(0, mm_r v0), (1, mm_i v1), (2, mm_i v2), (3, mm_i v3), (4, mm_i v4)] [] := by
  unfold f_X10_even_32 at hf
  refine xr_aload_n 33 0 C dX10_even_32 rfl rfl rfl ?_
  obtain ⟨x33, h33, hf⟩ := mm_bd_e hf
  refine xr_getR 36 C cf_X10_90 rfl h33 dX10_even_33 rfl ?_
  refine xr_iload 38 4 C dX10_even_36 rfl rfl ?_
  refine xr_iconst 39 C (v := (-1)) dX10_even_38 (by decide) rfl ?_
  obtain ⟨M39, h39, hf⟩ := mm_bd_e hf
  refine xr_astI 40 C h39 dX10_even_39 rfl ?_
  refine xr_aload_n 41 0 C dX10_even_40 rfl rfl rfl ?_
  refine xr_iload 43 4 C dX10_even_41 rfl rfl ?_
  refine xr_iconst 44 C (v := 4) dX10_even_43 (by decide) rfl ?_
  refine xr_idiv 45 C dX10_even_44 (by decide) rfl ?_
  refine xr_iload 47 4 C dX10_even_45 rfl rfl ?_
  refine xr_iconst 48 C (v := 4) dX10_even_47 (by decide) rfl ?_
  refine xr_irem 49 C dX10_even_48 (by decide) rfl ?_
  obtain ⟨u49, g49, hf⟩ := mm_bd_e hf
  obtain ⟨x49, h49, hf⟩ := mm_bd_e hf
  refine xr_callV 52 C [mm_i (v4 / 4), mm_i (v4 - v4 / 4 * 4)] cm_X10_220 (fun l G cy => c_X10_isSide l G cy h49) g49 rfl rfl ⟨⟨Nat.le_of_ble_eq_true rfl, Nat.le_of_ble_eq_true rfl⟩, (Nat.le_of_ble_eq_true rfl), (Nat.le_of_ble_eq_true rfl)⟩ (Nat.le_of_ble_eq_true rfl) dX10_even_49 rfl ?_
  refine xr_if_eq 144 55 C dX10_even_52 (by decide) rfl (fun hc => ?_) (fun hc => ?_)
  · replace hf := (if_pos hc).symm.trans hf
    exact w_X10_even_144 C hf ko
  · replace hf := (if_neg hc).symm.trans hf
    exact w_X10_even_55 C hf ko
noncomputable def f_X10_even_217 (M : mm_M) (v0 : Option Nat) (v1 : Int32) (v2 : Int32) (v4 : Int32) (s0 : Int32) : Option ((mm_M × Int32 × Int32) ⊕ (Int32 × mm_M)) :=
  some (.inl (M, v4, s0))
set_option maxRecDepth 20000 in
theorem w_X10_even_217 {g : mm_c} (C : mm_ok g cX10_even "LessonCardsModel" (some .int) "even" 8 3 70 0 0) {M : mm_M} {v0 : Option Nat} {v1 : Int32} {v2 : Int32} {v4 : Int32} {s0 : Int32} {res : (mm_M × Int32 × Int32) ⊕ (Int32 × mm_M)} (hf : f_X10_even_217 M v0 v1 v2 v4 s0 = some res) (ko : (mm_o (h_X10_even_163 g v0 v1 v2) (fun z => mm_q g 0 0 (some (mm_i z.1)) z.2)) res) : mm_X g 0 0 M 217 [(0, mm_r v0), (1, mm_i v1), (2, mm_i v2), (4, mm_i v4)] [mm_i s0] := by
  unfold f_X10_even_217 at hf
  refine xr_istore 219 C dX10_even_217 (by decide) rfl [(5, mm_i s0), (0, mm_r v0), (1, mm_i v1), (2, mm_i v2), (4, mm_i v4)] rfl ?_
  refine xr_goto 163 C dX10_even_219 (by decide) ?_
  refine xr_sub [1, 2, 3, 4, 0] (lv2 := [(0, mm_r v0), (1, mm_i v1), (2, mm_i v2), (4, mm_i v4), (5, mm_i s0)]) rfl ?_
  obtain rfl := Option.some.inj hf
  exact ko
noncomputable def f_X10_even_210 (M : mm_M) (v0 : Option Nat) (v1 : Int32) (v2 : Int32) (v4 : Int32) (v6 : Int32) : Option ((mm_M × Int32 × Int32) ⊕ (Int32 × mm_M)) :=
  f_X10_even_217 M v0 v1 v2 v4 v6
set_option maxRecDepth 20000 in
theorem w_X10_even_210 {g : mm_c} (C : mm_ok g cX10_even "LessonCardsModel" (some .int) "even" 8 3 70 0 0) {M : mm_M} {v0 : Option Nat} {v1 : Int32} {v2 : Int32} {v4 : Int32} {v6 : Int32} {res : (mm_M × Int32 × Int32) ⊕ (Int32 × mm_M)} (hf : f_X10_even_210 M v0 v1 v2 v4 v6 = some res) (ko : (mm_o (h_X10_even_163 g v0 v1 v2) (fun z => mm_q g 0 0 (some (mm_i z.1)) z.2)) res) : mm_X g 0 0 M 210 [(0, mm_r v0), (1, mm_i v1), (2, mm_i v2), (4, mm_i v4), (6, mm_i v6)] [] := by
  unfold f_X10_even_210 at hf
  refine xr_iload 212 4 C dX10_even_210 rfl rfl ?_
  refine xr_goto 217 C dX10_even_212 (by decide) ?_
  refine xr_sub [0, 1, 2, 3] (lv2 := [(0, mm_r v0), (1, mm_i v1), (2, mm_i v2), (4, mm_i v4)]) rfl ?_
  exact w_X10_even_217 C hf ko
noncomputable def f_X10_even_215 (M : mm_M) (v0 : Option Nat) (v1 : Int32) (v2 : Int32) (v4 : Int32) (v5 : Int32) : Option ((mm_M × Int32 × Int32) ⊕ (Int32 × mm_M)) :=
  f_X10_even_217 M v0 v1 v2 v4 v5
set_option maxRecDepth 20000 in
theorem w_X10_even_215 {g : mm_c} (C : mm_ok g cX10_even "LessonCardsModel" (some .int) "even" 8 3 70 0 0) {M : mm_M} {v0 : Option Nat} {v1 : Int32} {v2 : Int32} {v4 : Int32} {v5 : Int32} {res : (mm_M × Int32 × Int32) ⊕ (Int32 × mm_M)} (hf : f_X10_even_215 M v0 v1 v2 v4 v5 = some res) (ko : (mm_o (h_X10_even_163 g v0 v1 v2) (fun z => mm_q g 0 0 (some (mm_i z.1)) z.2)) res) : mm_X g 0 0 M 215 [(0, mm_r v0), (1, mm_i v1), (2, mm_i v2), (4, mm_i v4), (5, mm_i v5)] [] := by
  unfold f_X10_even_215 at hf
  refine xr_iload 217 4 C dX10_even_215 rfl rfl ?_
  refine xr_sub [0, 1, 2, 3] (lv2 := [(0, mm_r v0), (1, mm_i v1), (2, mm_i v2), (4, mm_i v4)]) rfl ?_
  exact w_X10_even_217 C hf ko
noncomputable def f_X10_even_203 (M : mm_M) (v0 : Option Nat) (v1 : Int32) (v2 : Int32) (v5 : Int32) (v6 : Int32) (v7 : Int32) (s0 : Int32) : Option ((mm_M × Int32 × Int32) ⊕ (Int32 × mm_M)) :=
  if v7 = 0 then f_X10_even_215 M v0 v1 v2 s0 v5 else f_X10_even_210 M v0 v1 v2 s0 v6
set_option maxRecDepth 20000 in
theorem w_X10_even_203 {g : mm_c} (C : mm_ok g cX10_even "LessonCardsModel" (some .int) "even" 8 3 70 0 0) {M : mm_M} {v0 : Option Nat} {v1 : Int32} {v2 : Int32} {v5 : Int32} {v6 : Int32} {v7 : Int32} {s0 : Int32} {res : (mm_M × Int32 × Int32) ⊕ (Int32 × mm_M)} (hf : f_X10_even_203 M v0 v1 v2 v5 v6 v7 s0 = some res) (ko : (mm_o (h_X10_even_163 g v0 v1 v2) (fun z => mm_q g 0 0 (some (mm_i z.1)) z.2)) res) : mm_X g 0 0 M 203 [(0, mm_r v0), (1, mm_i v1), (2, mm_i v2), (5, mm_i v5), (6, mm_i v6), (7, mm_i v7)] [mm_i s0] := by
  unfold f_X10_even_203 at hf
  refine xr_istore 205 C dX10_even_203 (by decide) rfl [(4, mm_i s0), (0, mm_r v0), (1, mm_i v1), (2, mm_i v2), (5, mm_i v5), (6, mm_i v6), (7, mm_i v7)] rfl ?_
  refine xr_iload 207 6 C dX10_even_205 rfl rfl ?_
  refine xr_if_eq 215 210 C dX10_even_207 (by decide) rfl (fun hc => ?_) (fun hc => ?_)
  · replace hf := (if_pos hc).symm.trans hf
    refine xr_sub [1, 2, 3, 0, 4] (lv2 := [(0, mm_r v0), (1, mm_i v1), (2, mm_i v2), (4, mm_i s0), (5, mm_i v5)]) rfl ?_
    exact w_X10_even_215 C hf ko
  · replace hf := (if_neg hc).symm.trans hf
    refine xr_sub [1, 2, 3, 0, 5] (lv2 := [(0, mm_r v0), (1, mm_i v1), (2, mm_i v2), (4, mm_i s0), (6, mm_i v6)]) rfl ?_
    exact w_X10_even_210 C hf ko
noncomputable def f_X10_even_194 (M : mm_M) (v0 : Option Nat) (v1 : Int32) (v2 : Int32) (v4 : Int32) (v5 : Int32) (v6 : Int32) (v7 : Int32) : Option ((mm_M × Int32 × Int32) ⊕ (Int32 × mm_M)) :=
  f_X10_even_203 M v0 v1 v2 v5 v6 v7 v4
set_option maxRecDepth 20000 in
theorem w_X10_even_194 {g : mm_c} (C : mm_ok g cX10_even "LessonCardsModel" (some .int) "even" 8 3 70 0 0) {M : mm_M} {v0 : Option Nat} {v1 : Int32} {v2 : Int32} {v4 : Int32} {v5 : Int32} {v6 : Int32} {v7 : Int32} {res : (mm_M × Int32 × Int32) ⊕ (Int32 × mm_M)} (hf : f_X10_even_194 M v0 v1 v2 v4 v5 v6 v7 = some res) (ko : (mm_o (h_X10_even_163 g v0 v1 v2) (fun z => mm_q g 0 0 (some (mm_i z.1)) z.2)) res) : mm_X g 0 0 M 194 [(0, mm_r v0), (1, mm_i v1), (2, mm_i v2), (4, mm_i v4), (5, mm_i v5), (6, mm_i v6), (7, mm_i v7)] [] := by
  unfold f_X10_even_194 at hf
  refine xr_iload 196 3 C dX10_even_194 rfl rfl ?_
  refine xr_goto 203 C dX10_even_196 (by decide) ?_
  refine xr_sub [0, 1, 2, 4, 5, 6] (lv2 := [(0, mm_r v0), (1, mm_i v1), (2, mm_i v2), (5, mm_i v5), (6, mm_i v6), (7, mm_i v7)]) rfl ?_
  exact w_X10_even_203 C hf ko
noncomputable def f_X10_even_199 (M : mm_M) (v0 : Option Nat) (v1 : Int32) (v2 : Int32) (v5 : Int32) (v6 : Int32) (v7 : Int32) : Option ((mm_M × Int32 × Int32) ⊕ (Int32 × mm_M)) :=
  f_X10_even_203 M v0 v1 v2 v5 v6 v7 (v6 + 1)
set_option maxRecDepth 20000 in
theorem w_X10_even_199 {g : mm_c} (C : mm_ok g cX10_even "LessonCardsModel" (some .int) "even" 8 3 70 0 0) {M : mm_M} {v0 : Option Nat} {v1 : Int32} {v2 : Int32} {v5 : Int32} {v6 : Int32} {v7 : Int32} {res : (mm_M × Int32 × Int32) ⊕ (Int32 × mm_M)} (hf : f_X10_even_199 M v0 v1 v2 v5 v6 v7 = some res) (ko : (mm_o (h_X10_even_163 g v0 v1 v2) (fun z => mm_q g 0 0 (some (mm_i z.1)) z.2)) res) : mm_X g 0 0 M 199 [(0, mm_r v0), (1, mm_i v1), (2, mm_i v2), (5, mm_i v5), (6, mm_i v6), (7, mm_i v7)] [] := by
  unfold f_X10_even_199 at hf
  refine xr_iload 201 4 C dX10_even_199 rfl rfl ?_
  refine xr_iconst 202 C (v := 1) dX10_even_201 (by decide) rfl ?_
  refine xr_iadd 203 C dX10_even_202 rfl ?_
  exact w_X10_even_203 C hf ko
noncomputable def f_X10_even_170 (M : mm_M) (v0 : Option Nat) (v1 : Int32) (v2 : Int32) (v4 : Int32) (v5 : Int32) : Option ((mm_M × Int32 × Int32) ⊕ (Int32 × mm_M)) :=
  (mm_rc M v0 11).bind fun u184 =>
  mm_b2 (f_X10_putAll M v0 v1 v2 ((v4 + v5) / 2)) fun x184 M184 =>
  if x184 = 0 then f_X10_even_199 M184 v0 v1 v2 v5 ((v4 + v5) / 2) x184 else f_X10_even_194 M184 v0 v1 v2 v4 v5 ((v4 + v5) / 2) x184
set_option maxRecDepth 20000 in
theorem w_X10_even_170 {g : mm_c} (C : mm_ok g cX10_even "LessonCardsModel" (some .int) "even" 8 3 70 0 0) {M : mm_M} {v0 : Option Nat} {v1 : Int32} {v2 : Int32} {v4 : Int32} {v5 : Int32} {res : (mm_M × Int32 × Int32) ⊕ (Int32 × mm_M)} (hf : f_X10_even_170 M v0 v1 v2 v4 v5 = some res) (ko : (mm_o (h_X10_even_163 g v0 v1 v2) (fun z => mm_q g 0 0 (some (mm_i z.1)) z.2)) res) : mm_X g 0 0 M 170 [(0, mm_r v0), (1, mm_i v1), (2, mm_i v2), (4, mm_i v4), (5, mm_i v5)] [] := by
  unfold f_X10_even_170 at hf
  refine xr_iload 172 3 C dX10_even_170 rfl rfl ?_
  refine xr_iload 174 4 C dX10_even_172 rfl rfl ?_
  refine xr_iadd 175 C dX10_even_174 rfl ?_
  refine xr_iconst 176 C (v := 2) dX10_even_175 (by decide) rfl ?_
  refine xr_idiv 177 C dX10_even_176 (by decide) rfl ?_
  refine xr_istore 179 C dX10_even_177 (by decide) rfl [(6, mm_i ((v4 + v5) / 2)), (0, mm_r v0), (1, mm_i v1), (2, mm_i v2), (4, mm_i v4), (5, mm_i v5)] rfl ?_
  refine xr_aload_n 180 1 C dX10_even_179 rfl rfl rfl ?_
  refine xr_iload_n 181 2 C dX10_even_180 rfl rfl rfl ?_
  refine xr_iload_n 182 3 C dX10_even_181 rfl rfl rfl ?_
  refine xr_iload 184 0 C dX10_even_182 rfl rfl ?_
  obtain ⟨u184, g184, hf⟩ := mm_bd_e hf
  obtain ⟨x184, M184, h184, hf⟩ := mm_b2_e hf
  refine xr_callV 187 C [mm_i v1, mm_i v2, mm_i ((v4 + v5) / 2)] cm_X10_236 (fun l G cy => c_X10_putAll l G cy h184) g184 rfl rfl ⟨⟨Nat.le_of_ble_eq_true rfl, Nat.le_of_ble_eq_true rfl⟩, (Nat.le_of_ble_eq_true rfl), (Nat.le_of_ble_eq_true rfl)⟩ (Nat.le_of_ble_eq_true rfl) dX10_even_184 rfl ?_
  refine xr_istore 189 C dX10_even_187 (by decide) rfl [(7, mm_i x184), (6, mm_i ((v4 + v5) / 2)), (0, mm_r v0), (1, mm_i v1), (2, mm_i v2), (4, mm_i v4), (5, mm_i v5)] rfl ?_
  refine xr_iload 191 0 C dX10_even_189 rfl rfl ?_
  refine xr_if_eq 199 194 C dX10_even_191 (by decide) rfl (fun hc => ?_) (fun hc => ?_)
  · replace hf := (if_pos hc).symm.trans hf
    refine xr_sub [2, 3, 4, 6, 1, 0] (lv2 := [(0, mm_r v0), (1, mm_i v1), (2, mm_i v2), (5, mm_i v5), (6, mm_i ((v4 + v5) / 2)), (7, mm_i x184)]) rfl ?_
    exact w_X10_even_199 C hf ko
  · replace hf := (if_neg hc).symm.trans hf
    refine xr_sub [2, 3, 4, 5, 6, 1, 0] (lv2 := [(0, mm_r v0), (1, mm_i v1), (2, mm_i v2), (4, mm_i v4), (5, mm_i v5), (6, mm_i ((v4 + v5) / 2)), (7, mm_i x184)]) rfl ?_
    exact w_X10_even_194 C hf ko
noncomputable def f_X10_even_222 (M : mm_M) (v0 : Option Nat) (v1 : Int32) (v2 : Int32) (v4 : Int32) : Option (Int32 × mm_M) :=
  (mm_rc M v0 11).bind fun u227 =>
  mm_b2 (f_X10_putAll M v0 v1 v2 v4) fun x227 M227 =>
  some (v4, M227)
set_option maxRecDepth 20000 in
theorem w_X10_even_222 {g : mm_c} (C : mm_ok g cX10_even "LessonCardsModel" (some .int) "even" 8 3 70 0 0) {M : mm_M} {v0 : Option Nat} {v1 : Int32} {v2 : Int32} {v4 : Int32} {res : Int32 × mm_M} (hf : f_X10_even_222 M v0 v1 v2 v4 = some res) (ko : (fun z => mm_q g 0 0 (some (mm_i z.1)) z.2) res) : mm_X g 0 0 M 222 [(0, mm_r v0), (1, mm_i v1), (2, mm_i v2), (4, mm_i v4)] [] := by
  unfold f_X10_even_222 at hf
  refine xr_aload_n 223 0 C dX10_even_222 rfl rfl rfl ?_
  refine xr_iload_n 224 1 C dX10_even_223 rfl rfl rfl ?_
  refine xr_iload_n 225 2 C dX10_even_224 rfl rfl rfl ?_
  refine xr_iload 227 3 C dX10_even_225 rfl rfl ?_
  obtain ⟨u227, g227, hf⟩ := mm_bd_e hf
  obtain ⟨x227, M227, h227, hf⟩ := mm_b2_e hf
  refine xr_callV 230 C [mm_i v1, mm_i v2, mm_i v4] cm_X10_236 (fun l G cy => c_X10_putAll l G cy h227) g227 rfl rfl ⟨⟨Nat.le_of_ble_eq_true rfl, Nat.le_of_ble_eq_true rfl⟩, (Nat.le_of_ble_eq_true rfl), (Nat.le_of_ble_eq_true rfl)⟩ (Nat.le_of_ble_eq_true rfl) dX10_even_227 rfl ?_
  refine xr_istore 232 C dX10_even_230 (by decide) rfl [(6, mm_i x227), (0, mm_r v0), (1, mm_i v1), (2, mm_i v2), (4, mm_i v4)] rfl ?_
  refine xr_iload 234 4 C dX10_even_232 rfl rfl ?_
  obtain rfl := Option.some.inj hf
  exact xr_iret C ko ⟨(Nat.le_of_ble_eq_true rfl), (Nat.le_of_ble_eq_true rfl)⟩ dX10_even_234
noncomputable def f_X10_even_163 (M : mm_M) (v0 : Option Nat) (v1 : Int32) (v2 : Int32) (v4 : Int32) (v5 : Int32) : Option ((mm_M × Int32 × Int32) ⊕ (Int32 × mm_M)) :=
  if v5 ≤ v4 then mm_mp (f_X10_even_222 M v0 v1 v2 v4) else f_X10_even_170 M v0 v1 v2 v4 v5
set_option maxRecDepth 20000 in
theorem w_X10_even_163 {g : mm_c} (C : mm_ok g cX10_even "LessonCardsModel" (some .int) "even" 8 3 70 0 0) {M : mm_M} {v0 : Option Nat} {v1 : Int32} {v2 : Int32} {v4 : Int32} {v5 : Int32} {res : (mm_M × Int32 × Int32) ⊕ (Int32 × mm_M)} (hf : f_X10_even_163 M v0 v1 v2 v4 v5 = some res) (ko : (mm_o (h_X10_even_163 g v0 v1 v2) (fun z => mm_q g 0 0 (some (mm_i z.1)) z.2)) res) : mm_X g 0 0 M 163 [(0, mm_r v0), (1, mm_i v1), (2, mm_i v2), (4, mm_i v4), (5, mm_i v5)] [] := by
  unfold f_X10_even_163 at hf
  refine xr_iload 165 3 C dX10_even_163 rfl rfl ?_
  refine xr_iload 167 4 C dX10_even_165 rfl rfl ?_
  refine xr_icmp_ge 222 170 C dX10_even_167 (by decide) rfl (fun hc => ?_) (fun hc => ?_)
  · replace hf := (if_pos hc).symm.trans hf
    refine xr_sub [0, 1, 2, 3] (lv2 := [(0, mm_r v0), (1, mm_i v1), (2, mm_i v2), (4, mm_i v4)]) rfl ?_
    obtain ⟨z, hf2, rfl⟩ := mm_mp_e hf
    clear hf
    have hf := hf2
    clear hf2
    exact w_X10_even_222 C hf ko
  · replace hf := (if_neg hc).symm.trans hf
    exact w_X10_even_170 C hf ko
noncomputable def f_X10_even_163w (M : mm_M) (v0 : Option Nat) (v1 : Int32) (v2 : Int32) (v4 : Int32) (v5 : Int32) : Option (Int32 × mm_M) := mm_w (fun x => f_X10_even_163 x.1 v0 v1 v2 x.2.1 x.2.2) (M, v4, v5)
theorem l_X10_even_163 {g : mm_c} (C : mm_ok g cX10_even "LessonCardsModel" (some .int) "even" 8 3 70 0 0) {M : mm_M} {v0 : Option Nat} {v1 : Int32} {v2 : Int32} {v4 : Int32} {v5 : Int32} {res : Int32 × mm_M} (hf : f_X10_even_163w M v0 v1 v2 v4 v5 = some res) (ko : (fun z => mm_q g 0 0 (some (mm_i z.1)) z.2) res) : mm_X g 0 0 M 163 [(0, mm_r v0), (1, mm_i v1), (2, mm_i v2), (4, mm_i v4), (5, mm_i v5)] [] :=
  mm_w_W (body := fun x => f_X10_even_163 x.1 v0 v1 v2 x.2.1 x.2.2) (Wh := h_X10_even_163 g v0 v1 v2) (ok := (fun z => mm_q g 0 0 (some (mm_i z.1)) z.2)) (x := (M, v4, v5)) (fun x r hb ho => w_X10_even_163 C hb ho) hf ko
noncomputable def f_X10_even_150 (M : mm_M) (v0 : Option Nat) (v1 : Int32) (v2 : Int32) : Option (Int32 × mm_M) :=
  (mm_pZ M v0 11 37 1).bind fun M152 =>
  f_X10_even_163w M152 v0 v1 v2 0 480
set_option maxRecDepth 20000 in
theorem w_X10_even_150 {g : mm_c} (C : mm_ok g cX10_even "LessonCardsModel" (some .int) "even" 8 3 70 0 0) {M : mm_M} {v0 : Option Nat} {v1 : Int32} {v2 : Int32} {res : Int32 × mm_M} (hf : f_X10_even_150 M v0 v1 v2 = some res) (ko : (fun z => mm_q g 0 0 (some (mm_i z.1)) z.2) res) : mm_X g 0 0 M 150 [(0, mm_r v0), (1, mm_i v1), (2, mm_i v2)] [] := by
  unfold f_X10_even_150 at hf
  refine xr_aload_n 151 0 C dX10_even_150 rfl rfl rfl ?_
  refine xr_iconst 152 C (v := 1) dX10_even_151 (by decide) rfl ?_
  obtain ⟨M152, h152, hf⟩ := mm_bd_e hf
  refine xr_putZ 155 C cf_X10_233 (fun h => by cases h) h152 dX10_even_152 rfl ?_
  refine xr_iconst 156 C (v := 0) dX10_even_155 (by decide) rfl ?_
  refine xr_istore 158 C dX10_even_156 (by decide) rfl [(4, mm_i 0), (0, mm_r v0), (1, mm_i v1), (2, mm_i v2)] rfl ?_
  refine xr_sipush 161 C (v := 480) dX10_even_158 (by decide) rfl ?_
  refine xr_istore 163 C dX10_even_161 (by decide) rfl [(5, mm_i 480), (4, mm_i 0), (0, mm_r v0), (1, mm_i v1), (2, mm_i v2)] rfl ?_
  refine xr_sub [2, 3, 4, 1, 0] (lv2 := [(0, mm_r v0), (1, mm_i v1), (2, mm_i v2), (4, mm_i 0), (5, mm_i 480)]) rfl ?_
  exact l_X10_even_163 C hf ko
noncomputable def f_X10_even_24 (M : mm_M) (v0 : Option Nat) (v1 : Int32) (v2 : Int32) (v3 : Int32) (v4 : Int32) : Option ((mm_M × Int32 × Int32) ⊕ (Int32 × mm_M)) :=
  if 480 ≤ v4 then mm_mp (f_X10_even_150 M v0 v1 v2) else f_X10_even_32 M v0 v1 v2 v3 v4
set_option maxRecDepth 20000 in
theorem w_X10_even_24 {g : mm_c} (C : mm_ok g cX10_even "LessonCardsModel" (some .int) "even" 8 3 70 0 0) {M : mm_M} {v0 : Option Nat} {v1 : Int32} {v2 : Int32} {v3 : Int32} {v4 : Int32} {res : (mm_M × Int32 × Int32) ⊕ (Int32 × mm_M)} (hf : f_X10_even_24 M v0 v1 v2 v3 v4 = some res) (ko : (mm_o (h_X10_even_24 g v0 v1 v2) (fun z => mm_q g 0 0 (some (mm_i z.1)) z.2)) res) : mm_X g 0 0 M 24 [(0, mm_r v0), (1, mm_i v1), (2, mm_i v2), (3, mm_i v3), (4, mm_i v4)] [] := by
  unfold f_X10_even_24 at hf
  refine xr_iload 26 4 C dX10_even_24 rfl rfl ?_
  refine xr_sipush 29 C (v := 480) dX10_even_26 (by decide) rfl ?_
  refine xr_icmp_ge 150 32 C dX10_even_29 (by decide) rfl (fun hc => ?_) (fun hc => ?_)
  · replace hf := (if_pos hc).symm.trans hf
    refine xr_sub [0, 1, 2] (lv2 := [(0, mm_r v0), (1, mm_i v1), (2, mm_i v2)]) rfl ?_
    obtain ⟨z, hf2, rfl⟩ := mm_mp_e hf
    clear hf
    have hf := hf2
    clear hf2
    exact w_X10_even_150 C hf ko
  · replace hf := (if_neg hc).symm.trans hf
    exact w_X10_even_32 C hf ko
noncomputable def f_X10_even_24w (M : mm_M) (v0 : Option Nat) (v1 : Int32) (v2 : Int32) (v3 : Int32) (v4 : Int32) : Option (Int32 × mm_M) := mm_w (fun x => f_X10_even_24 x.1 v0 v1 v2 x.2.1 x.2.2) (M, v3, v4)
theorem l_X10_even_24 {g : mm_c} (C : mm_ok g cX10_even "LessonCardsModel" (some .int) "even" 8 3 70 0 0) {M : mm_M} {v0 : Option Nat} {v1 : Int32} {v2 : Int32} {v3 : Int32} {v4 : Int32} {res : Int32 × mm_M} (hf : f_X10_even_24w M v0 v1 v2 v3 v4 = some res) (ko : (fun z => mm_q g 0 0 (some (mm_i z.1)) z.2) res) : mm_X g 0 0 M 24 [(0, mm_r v0), (1, mm_i v1), (2, mm_i v2), (3, mm_i v3), (4, mm_i v4)] [] :=
  mm_w_W (body := fun x => f_X10_even_24 x.1 v0 v1 v2 x.2.1 x.2.2) (Wh := h_X10_even_24 g v0 v1 v2) (ok := (fun z => mm_q g 0 0 (some (mm_i z.1)) z.2)) (x := (M, v3, v4)) (fun x r hb ho => w_X10_even_24 C hb ho) hf ko
noncomputable def f_X10_even_19 (M : mm_M) (v0 : Option Nat) (v1 : Int32) (v2 : Int32) : Option (Int32 × mm_M) :=
  f_X10_even_24w M v0 v1 v2 0 0
set_option maxRecDepth 20000 in
theorem w_X10_even_19 {g : mm_c} (C : mm_ok g cX10_even "LessonCardsModel" (some .int) "even" 8 3 70 0 0) {M : mm_M} {v0 : Option Nat} {v1 : Int32} {v2 : Int32} {res : Int32 × mm_M} (hf : f_X10_even_19 M v0 v1 v2 = some res) (ko : (fun z => mm_q g 0 0 (some (mm_i z.1)) z.2) res) : mm_X g 0 0 M 19 [(0, mm_r v0), (1, mm_i v1), (2, mm_i v2)] [] := by
  unfold f_X10_even_19 at hf
  refine xr_iconst 20 C (v := 0) dX10_even_19 (by decide) rfl ?_
  refine xr_istore_n 21 C dX10_even_20 rfl (by decide) rfl [(3, mm_i 0), (0, mm_r v0), (1, mm_i v1), (2, mm_i v2)] rfl ?_
  refine xr_iconst 22 C (v := 0) dX10_even_21 (by decide) rfl ?_
  refine xr_istore 24 C dX10_even_22 (by decide) rfl [(4, mm_i 0), (3, mm_i 0), (0, mm_r v0), (1, mm_i v1), (2, mm_i v2)] rfl ?_
  refine xr_sub [2, 3, 4, 1, 0] (lv2 := [(0, mm_r v0), (1, mm_i v1), (2, mm_i v2), (3, mm_i 0), (4, mm_i 0)]) rfl ?_
  exact l_X10_even_24 C hf ko
noncomputable def f_X10_even_7 (M : mm_M) (v0 : Option Nat) (v1 : Int32) (v2 : Int32) : Option (Int32 × mm_M) :=
  (f_X10_within M v2 0 20).bind fun x11 =>
  if x11 = 0 then f_X10_even_17 M else f_X10_even_19 M v0 v1 v2
set_option maxRecDepth 20000 in
theorem w_X10_even_7 {g : mm_c} (C : mm_ok g cX10_even "LessonCardsModel" (some .int) "even" 8 3 70 0 0) {M : mm_M} {v0 : Option Nat} {v1 : Int32} {v2 : Int32} {res : Int32 × mm_M} (hf : f_X10_even_7 M v0 v1 v2 = some res) (ko : (fun z => mm_q g 0 0 (some (mm_i z.1)) z.2) res) : mm_X g 0 0 M 7 [(0, mm_r v0), (1, mm_i v1), (2, mm_i v2)] [] := by
  unfold f_X10_even_7 at hf
  refine xr_iload_n 8 2 C dX10_even_7 rfl rfl rfl ?_
  refine xr_iconst 9 C (v := 0) dX10_even_8 (by decide) rfl ?_
  refine xr_bipush 11 C (v := 20) dX10_even_9 (by decide) rfl ?_
  obtain ⟨x11, h11, hf⟩ := mm_bd_e hf
  refine xr_callS 14 C [mm_i v2, mm_i 0, mm_i 20] cm_X10_123 (fun l G cy => c_X10_within l G cy h11) rfl rfl ⟨⟨Nat.le_of_ble_eq_true rfl, Nat.le_of_ble_eq_true rfl⟩, (Nat.le_of_ble_eq_true rfl), (Nat.le_of_ble_eq_true rfl)⟩ (Nat.le_of_ble_eq_true rfl) dX10_even_11 rfl ?_
  refine xr_if_ne 19 17 C dX10_even_14 (by decide) rfl (fun hc => ?_) (fun hc => ?_)
  · replace hf := (if_neg hc).symm.trans hf
    exact w_X10_even_19 C hf ko
  · replace hf := (if_pos hc).symm.trans hf
    refine xr_sub [] (lv2 := []) rfl ?_
    exact w_X10_even_17 C hf ko
noncomputable def f_X10_even_0 (M : mm_M) (v0 : Option Nat) (v1 : Int32) (v2 : Int32) : Option (Int32 × mm_M) :=
  (f_X10_isPupil M v1).bind fun x1 =>
  if x1 = 0 then f_X10_even_17 M else f_X10_even_7 M v0 v1 v2
set_option maxRecDepth 20000 in
theorem w_X10_even_0 {g : mm_c} (C : mm_ok g cX10_even "LessonCardsModel" (some .int) "even" 8 3 70 0 0) {M : mm_M} {v0 : Option Nat} {v1 : Int32} {v2 : Int32} {res : Int32 × mm_M} (hf : f_X10_even_0 M v0 v1 v2 = some res) (ko : (fun z => mm_q g 0 0 (some (mm_i z.1)) z.2) res) : mm_X g 0 0 M 0 [(0, mm_r v0), (1, mm_i v1), (2, mm_i v2)] [] := by
  unfold f_X10_even_0 at hf
  refine xr_iload_n 1 1 C dX10_even_0 rfl rfl rfl ?_
  obtain ⟨x1, h1, hf⟩ := mm_bd_e hf
  refine xr_callS 4 C [mm_i v1] cm_X10_190 (fun l G cy => c_X10_isPupil l G cy h1) rfl rfl ⟨⟨Nat.le_of_ble_eq_true rfl, Nat.le_of_ble_eq_true rfl⟩, (Nat.le_of_ble_eq_true rfl), (Nat.le_of_ble_eq_true rfl)⟩ (Nat.le_of_ble_eq_true rfl) dX10_even_1 rfl ?_
  refine xr_if_eq 17 7 C dX10_even_4 (by decide) rfl (fun hc => ?_) (fun hc => ?_)
  · replace hf := (if_pos hc).symm.trans hf
    refine xr_sub [] (lv2 := []) rfl ?_
    exact w_X10_even_17 C hf ko
  · replace hf := (if_neg hc).symm.trans hf
    exact w_X10_even_7 C hf ko
noncomputable def f_X10_even (M : mm_M) (v0 : Option Nat) (v1 : Int32) (v2 : Int32) : Option (Int32 × mm_M) := f_X10_even_0 M v0 v1 v2
theorem c_X10_even (l : Launch) (G : va_G) (cy : Nat → ClassId) {M : mm_M} {v0 : Option Nat} {v1 : Int32} {v2 : Int32} {r : Int32} {M1 : mm_M} (hf : f_X10_even M v0 v1 v2 = some (r, M1)) : mm_Met l yX10_even cX10_even 8 (some .int) 3 70 0 0 G cy [mm_r v0, mm_i v1, mm_i v2] M (some (mm_i r)) M1 :=
  mm_enter (by decide) (Nat.le_of_ble_eq_true rfl) (fun p e R s m args below meth c Q C hq => xr_sub [0, 1, 2] (lv2 := [(0, mm_r v0), (1, mm_i v1), (2, mm_i v2)]) rfl (w_X10_even_0 C hf hq))
noncomputable def f_X10_load_27 (M : mm_M) (s0 : Int32) : Option (Int32) :=
  some s0
set_option maxRecDepth 20000 in
theorem w_X10_load_27 {g : mm_c} (C : mm_ok g cX10_load "LessonCardsModel" (some .int) "load" 2 1 22 0 0) {M : mm_M} {s0 : Int32} {res : Int32} (hf : f_X10_load_27 M s0 = some res) (ko : (fun z => mm_q g 0 0 (some (mm_i z)) M) res) : mm_X g 0 0 M 27 [] [mm_i s0] := by
  unfold f_X10_load_27 at hf
  obtain rfl := Option.some.inj hf
  exact xr_iret C ko ⟨(Nat.le_of_ble_eq_true rfl), (Nat.le_of_ble_eq_true rfl)⟩ dX10_load_27
noncomputable def f_X10_load_17 (M : mm_M) (v0 : Option Nat) (v1 : Int32) : Option (Int32) :=
  (mm_fR M v0 11 36).bind fun x18 =>
  (mm_aI M x18 12 v1).bind fun x22 =>
  f_X10_load_27 M x22
set_option maxRecDepth 20000 in
theorem w_X10_load_17 {g : mm_c} (C : mm_ok g cX10_load "LessonCardsModel" (some .int) "load" 2 1 22 0 0) {M : mm_M} {v0 : Option Nat} {v1 : Int32} {res : Int32} (hf : f_X10_load_17 M v0 v1 = some res) (ko : (fun z => mm_q g 0 0 (some (mm_i z)) M) res) : mm_X g 0 0 M 17 [(0, mm_r v0), (1, mm_i v1)] [] := by
  unfold f_X10_load_17 at hf
  refine xr_aload_n 18 0 C dX10_load_17 rfl rfl rfl ?_
  obtain ⟨x18, h18, hf⟩ := mm_bd_e hf
  refine xr_getR 21 C cf_X10_96 rfl h18 dX10_load_18 rfl ?_
  refine xr_iload_n 22 1 C dX10_load_21 rfl rfl rfl ?_
  obtain ⟨x22, h22, hf⟩ := mm_bd_e hf
  refine xr_aldI 23 C h22 dX10_load_22 rfl ?_
  refine xr_goto 27 C dX10_load_23 (by decide) ?_
  refine xr_sub [] (lv2 := []) rfl ?_
  exact w_X10_load_27 C hf ko
noncomputable def f_X10_load_26 (M : mm_M) : Option (Int32) :=
  f_X10_load_27 M (-1)
set_option maxRecDepth 20000 in
theorem w_X10_load_26 {g : mm_c} (C : mm_ok g cX10_load "LessonCardsModel" (some .int) "load" 2 1 22 0 0) {M : mm_M} {res : Int32} (hf : f_X10_load_26 M = some res) (ko : (fun z => mm_q g 0 0 (some (mm_i z)) M) res) : mm_X g 0 0 M 26 [] [] := by
  unfold f_X10_load_26 at hf
  refine xr_iconst 27 C (v := (-1)) dX10_load_26 (by decide) rfl ?_
  exact w_X10_load_27 C hf ko
noncomputable def f_X10_load_7 (M : mm_M) (v0 : Option Nat) (v1 : Int32) : Option (Int32) :=
  (f_X10_within M v1 0 80).bind fun x11 =>
  if x11 = 0 then f_X10_load_26 M else f_X10_load_17 M v0 v1
set_option maxRecDepth 20000 in
theorem w_X10_load_7 {g : mm_c} (C : mm_ok g cX10_load "LessonCardsModel" (some .int) "load" 2 1 22 0 0) {M : mm_M} {v0 : Option Nat} {v1 : Int32} {res : Int32} (hf : f_X10_load_7 M v0 v1 = some res) (ko : (fun z => mm_q g 0 0 (some (mm_i z)) M) res) : mm_X g 0 0 M 7 [(0, mm_r v0), (1, mm_i v1)] [] := by
  unfold f_X10_load_7 at hf
  refine xr_iload_n 8 1 C dX10_load_7 rfl rfl rfl ?_
  refine xr_iconst 9 C (v := 0) dX10_load_8 (by decide) rfl ?_
  refine xr_bipush 11 C (v := 80) dX10_load_9 (by decide) rfl ?_
  obtain ⟨x11, h11, hf⟩ := mm_bd_e hf
  refine xr_callS 14 C [mm_i v1, mm_i 0, mm_i 80] cm_X10_123 (fun l G cy => c_X10_within l G cy h11) rfl rfl ⟨⟨Nat.le_of_ble_eq_true rfl, Nat.le_of_ble_eq_true rfl⟩, (Nat.le_of_ble_eq_true rfl), (Nat.le_of_ble_eq_true rfl)⟩ (Nat.le_of_ble_eq_true rfl) dX10_load_11 rfl ?_
  refine xr_if_eq 26 17 C dX10_load_14 (by decide) rfl (fun hc => ?_) (fun hc => ?_)
  · replace hf := (if_pos hc).symm.trans hf
    refine xr_sub [] (lv2 := []) rfl ?_
    exact w_X10_load_26 C hf ko
  · replace hf := (if_neg hc).symm.trans hf
    exact w_X10_load_17 C hf ko
noncomputable def f_X10_load_0 (M : mm_M) (v0 : Option Nat) (v1 : Int32) : Option (Int32) :=
  (mm_fI M v0 11 37).bind fun x1 =>
  if x1 = 0 then f_X10_load_26 M else f_X10_load_7 M v0 v1
set_option maxRecDepth 20000 in
theorem w_X10_load_0 {g : mm_c} (C : mm_ok g cX10_load "LessonCardsModel" (some .int) "load" 2 1 22 0 0) {M : mm_M} {v0 : Option Nat} {v1 : Int32} {res : Int32} (hf : f_X10_load_0 M v0 v1 = some res) (ko : (fun z => mm_q g 0 0 (some (mm_i z)) M) res) : mm_X g 0 0 M 0 [(0, mm_r v0), (1, mm_i v1)] [] := by
  unfold f_X10_load_0 at hf
  refine xr_aload_n 1 0 C dX10_load_0 rfl rfl rfl ?_
  obtain ⟨x1, h1, hf⟩ := mm_bd_e hf
  refine xr_getI 4 C cf_X10_233 rfl h1 dX10_load_1 rfl ?_
  refine xr_if_eq 26 7 C dX10_load_4 (by decide) rfl (fun hc => ?_) (fun hc => ?_)
  · replace hf := (if_pos hc).symm.trans hf
    refine xr_sub [] (lv2 := []) rfl ?_
    exact w_X10_load_26 C hf ko
  · replace hf := (if_neg hc).symm.trans hf
    exact w_X10_load_7 C hf ko
noncomputable def f_X10_load (M : mm_M) (v0 : Option Nat) (v1 : Int32) : Option (Int32) := f_X10_load_0 M v0 v1
theorem c_X10_load (l : Launch) (G : va_G) (cy : Nat → ClassId) {M : mm_M} {v0 : Option Nat} {v1 : Int32} {r : Int32} (hf : f_X10_load M v0 v1 = some r) : mm_Met l yX10_load cX10_load 2 (some .int) 1 22 0 0 G cy [mm_r v0, mm_i v1] M (some (mm_i r)) M :=
  mm_enter (by decide) (Nat.le_of_ble_eq_true rfl) (fun p e R s m args below meth c Q C hq => xr_sub [0, 1] (lv2 := [(0, mm_r v0), (1, mm_i v1)]) rfl (w_X10_load_0 C hf hq))
noncomputable def f_X10_put_30 (M : mm_M) (s0 : Int32) : Option (Int32) :=
  some s0
set_option maxRecDepth 20000 in
theorem w_X10_put_30 {g : mm_c} (C : mm_ok g cX10_put "LessonCardsModel" (some .int) "put" 3 2 43 0 0) {M : mm_M} {s0 : Int32} {res : Int32} (hf : f_X10_put_30 M s0 = some res) (ko : (fun z => mm_q g 0 0 (some (mm_i z)) M) res) : mm_X g 0 0 M 30 [] [mm_i s0] := by
  unfold f_X10_put_30 at hf
  obtain rfl := Option.some.inj hf
  exact xr_iret C ko ⟨(Nat.le_of_ble_eq_true rfl), (Nat.le_of_ble_eq_true rfl)⟩ dX10_put_30
noncomputable def f_X10_put_16 (M : mm_M) (v0 : Option Nat) (v1 : Int32) (v2 : Int32) : Option (Int32) :=
  (mm_fR M v0 11 35).bind fun x17 =>
  (mm_aI M x17 12 ((4 * v1) + v2)).bind fun x25 =>
  f_X10_put_30 M x25
set_option maxRecDepth 20000 in
theorem w_X10_put_16 {g : mm_c} (C : mm_ok g cX10_put "LessonCardsModel" (some .int) "put" 3 2 43 0 0) {M : mm_M} {v0 : Option Nat} {v1 : Int32} {v2 : Int32} {res : Int32} (hf : f_X10_put_16 M v0 v1 v2 = some res) (ko : (fun z => mm_q g 0 0 (some (mm_i z)) M) res) : mm_X g 0 0 M 16 [(0, mm_r v0), (1, mm_i v1), (2, mm_i v2)] [] := by
  unfold f_X10_put_16 at hf
  refine xr_aload_n 17 0 C dX10_put_16 rfl rfl rfl ?_
  obtain ⟨x17, h17, hf⟩ := mm_bd_e hf
  refine xr_getR 20 C cf_X10_93 rfl h17 dX10_put_17 rfl ?_
  refine xr_iconst 21 C (v := 4) dX10_put_20 (by decide) rfl ?_
  refine xr_iload_n 22 1 C dX10_put_21 rfl rfl rfl ?_
  refine xr_imul 23 C dX10_put_22 rfl ?_
  refine xr_iload_n 24 2 C dX10_put_23 rfl rfl rfl ?_
  refine xr_iadd 25 C dX10_put_24 rfl ?_
  obtain ⟨x25, h25, hf⟩ := mm_bd_e hf
  refine xr_aldI 26 C h25 dX10_put_25 rfl ?_
  refine xr_goto 30 C dX10_put_26 (by decide) ?_
  refine xr_sub [] (lv2 := []) rfl ?_
  exact w_X10_put_30 C hf ko
noncomputable def f_X10_put_29 (M : mm_M) : Option (Int32) :=
  f_X10_put_30 M (-1)
set_option maxRecDepth 20000 in
theorem w_X10_put_29 {g : mm_c} (C : mm_ok g cX10_put "LessonCardsModel" (some .int) "put" 3 2 43 0 0) {M : mm_M} {res : Int32} (hf : f_X10_put_29 M = some res) (ko : (fun z => mm_q g 0 0 (some (mm_i z)) M) res) : mm_X g 0 0 M 29 [] [] := by
  unfold f_X10_put_29 at hf
  refine xr_iconst 30 C (v := (-1)) dX10_put_29 (by decide) rfl ?_
  exact w_X10_put_30 C hf ko
noncomputable def f_X10_put_7 (M : mm_M) (v0 : Option Nat) (v1 : Int32) (v2 : Int32) : Option (Int32) :=
  (mm_rc M v0 11).bind fun u10 =>
  (f_X10_isSide M v0 v1 v2).bind fun x10 =>
  if x10 = 0 then f_X10_put_29 M else f_X10_put_16 M v0 v1 v2
set_option maxRecDepth 20000 in
theorem w_X10_put_7 {g : mm_c} (C : mm_ok g cX10_put "LessonCardsModel" (some .int) "put" 3 2 43 0 0) {M : mm_M} {v0 : Option Nat} {v1 : Int32} {v2 : Int32} {res : Int32} (hf : f_X10_put_7 M v0 v1 v2 = some res) (ko : (fun z => mm_q g 0 0 (some (mm_i z)) M) res) : mm_X g 0 0 M 7 [(0, mm_r v0), (1, mm_i v1), (2, mm_i v2)] [] := by
  unfold f_X10_put_7 at hf
  refine xr_aload_n 8 0 C dX10_put_7 rfl rfl rfl ?_
  refine xr_iload_n 9 1 C dX10_put_8 rfl rfl rfl ?_
  refine xr_iload_n 10 2 C dX10_put_9 rfl rfl rfl ?_
  obtain ⟨u10, g10, hf⟩ := mm_bd_e hf
  obtain ⟨x10, h10, hf⟩ := mm_bd_e hf
  refine xr_callV 13 C [mm_i v1, mm_i v2] cm_X10_220 (fun l G cy => c_X10_isSide l G cy h10) g10 rfl rfl ⟨⟨Nat.le_of_ble_eq_true rfl, Nat.le_of_ble_eq_true rfl⟩, (Nat.le_of_ble_eq_true rfl), (Nat.le_of_ble_eq_true rfl)⟩ (Nat.le_of_ble_eq_true rfl) dX10_put_10 rfl ?_
  refine xr_if_eq 29 16 C dX10_put_13 (by decide) rfl (fun hc => ?_) (fun hc => ?_)
  · replace hf := (if_pos hc).symm.trans hf
    refine xr_sub [] (lv2 := []) rfl ?_
    exact w_X10_put_29 C hf ko
  · replace hf := (if_neg hc).symm.trans hf
    exact w_X10_put_16 C hf ko
noncomputable def f_X10_put_0 (M : mm_M) (v0 : Option Nat) (v1 : Int32) (v2 : Int32) : Option (Int32) :=
  (mm_fI M v0 11 37).bind fun x1 =>
  if x1 = 0 then f_X10_put_29 M else f_X10_put_7 M v0 v1 v2
set_option maxRecDepth 20000 in
theorem w_X10_put_0 {g : mm_c} (C : mm_ok g cX10_put "LessonCardsModel" (some .int) "put" 3 2 43 0 0) {M : mm_M} {v0 : Option Nat} {v1 : Int32} {v2 : Int32} {res : Int32} (hf : f_X10_put_0 M v0 v1 v2 = some res) (ko : (fun z => mm_q g 0 0 (some (mm_i z)) M) res) : mm_X g 0 0 M 0 [(0, mm_r v0), (1, mm_i v1), (2, mm_i v2)] [] := by
  unfold f_X10_put_0 at hf
  refine xr_aload_n 1 0 C dX10_put_0 rfl rfl rfl ?_
  obtain ⟨x1, h1, hf⟩ := mm_bd_e hf
  refine xr_getI 4 C cf_X10_233 rfl h1 dX10_put_1 rfl ?_
  refine xr_if_eq 29 7 C dX10_put_4 (by decide) rfl (fun hc => ?_) (fun hc => ?_)
  · replace hf := (if_pos hc).symm.trans hf
    refine xr_sub [] (lv2 := []) rfl ?_
    exact w_X10_put_29 C hf ko
  · replace hf := (if_neg hc).symm.trans hf
    exact w_X10_put_7 C hf ko
noncomputable def f_X10_put (M : mm_M) (v0 : Option Nat) (v1 : Int32) (v2 : Int32) : Option (Int32) := f_X10_put_0 M v0 v1 v2
theorem c_X10_put (l : Launch) (G : va_G) (cy : Nat → ClassId) {M : mm_M} {v0 : Option Nat} {v1 : Int32} {v2 : Int32} {r : Int32} (hf : f_X10_put M v0 v1 v2 = some r) : mm_Met l yX10_put cX10_put 3 (some .int) 2 43 0 0 G cy [mm_r v0, mm_i v1, mm_i v2] M (some (mm_i r)) M :=
  mm_enter (by decide) (Nat.le_of_ble_eq_true rfl) (fun p e R s m args below meth c Q C hq => xr_sub [0, 1, 2] (lv2 := [(0, mm_r v0), (1, mm_i v1), (2, mm_i v2)]) rfl (w_X10_put_0 C hf hq))
def h_X10_greatest_5 (g : mm_c) (M : mm_M) (v0 : Option Nat) (v1 : Int32) (v2 : Int32) : (Int64 × Int32) → Prop := fun x => mm_X g 0 0 M 5 [(0, mm_r v0), (1, mm_i v1), (2, mm_i v2), (3, mm_j x.1), (5, mm_i x.2)] []
noncomputable def f_X10_greatest_85 (M : mm_M) (v0 : Option Nat) (v1 : Int32) (v2 : Int32) (v5 : Int32) (s0 : Int64) : Option ((Int64 × Int32) ⊕ (Int64)) :=
  some (.inl (s0, (v5 + 1)))
set_option maxRecDepth 20000 in
theorem w_X10_greatest_85 {g : mm_c} (C : mm_ok g cX10_greatest "LessonCardsModel" (some .long) "greatest" 8 0 0 0 0) {M : mm_M} {v0 : Option Nat} {v1 : Int32} {v2 : Int32} {v5 : Int32} {s0 : Int64} {res : (Int64 × Int32) ⊕ (Int64)} (hf : f_X10_greatest_85 M v0 v1 v2 v5 s0 = some res) (ko : (mm_o (h_X10_greatest_5 g M v0 v1 v2) (fun z => mm_q g 0 0 (some (mm_j z)) M)) res) : mm_X g 0 0 M 85 [(0, mm_r v0), (1, mm_i v1), (2, mm_i v2), (5, mm_i v5)] [mm_j s0] := by
  unfold f_X10_greatest_85 at hf
  refine xr_lstore_n 86 C dX10_greatest_85 rfl (by decide) rfl [(3, mm_j s0), (0, mm_r v0), (1, mm_i v1), (2, mm_i v2), (5, mm_i v5)] rfl ?_
  refine xr_iinc 89 4 C dX10_greatest_86 rfl (by decide) (v := 1) (by decide) rfl [(5, mm_i (v5 + 1)), (3, mm_j s0), (0, mm_r v0), (1, mm_i v1), (2, mm_i v2)] rfl ?_
  refine xr_goto 5 C dX10_greatest_89 (by decide) ?_
  refine xr_sub [2, 3, 4, 1, 0] (lv2 := [(0, mm_r v0), (1, mm_i v1), (2, mm_i v2), (3, mm_j s0), (5, mm_i (v5 + 1))]) rfl ?_
  obtain rfl := Option.some.inj hf
  exact ko
noncomputable def f_X10_greatest_79 (M : mm_M) (v0 : Option Nat) (v1 : Int32) (v2 : Int32) (v5 : Int32) (v6 : Int64) : Option ((Int64 × Int32) ⊕ (Int64)) :=
  f_X10_greatest_85 M v0 v1 v2 v5 v6
set_option maxRecDepth 20000 in
theorem w_X10_greatest_79 {g : mm_c} (C : mm_ok g cX10_greatest "LessonCardsModel" (some .long) "greatest" 8 0 0 0 0) {M : mm_M} {v0 : Option Nat} {v1 : Int32} {v2 : Int32} {v5 : Int32} {v6 : Int64} {res : (Int64 × Int32) ⊕ (Int64)} (hf : f_X10_greatest_79 M v0 v1 v2 v5 v6 = some res) (ko : (mm_o (h_X10_greatest_5 g M v0 v1 v2) (fun z => mm_q g 0 0 (some (mm_j z)) M)) res) : mm_X g 0 0 M 79 [(0, mm_r v0), (1, mm_i v1), (2, mm_i v2), (5, mm_i v5), (6, mm_j v6)] [] := by
  unfold f_X10_greatest_79 at hf
  refine xr_lload 81 4 C dX10_greatest_79 rfl rfl ?_
  refine xr_goto 85 C dX10_greatest_81 (by decide) ?_
  refine xr_sub [0, 1, 2, 3] (lv2 := [(0, mm_r v0), (1, mm_i v1), (2, mm_i v2), (5, mm_i v5)]) rfl ?_
  exact w_X10_greatest_85 C hf ko
noncomputable def f_X10_greatest_84 (M : mm_M) (v0 : Option Nat) (v1 : Int32) (v2 : Int32) (v3 : Int64) (v5 : Int32) : Option ((Int64 × Int32) ⊕ (Int64)) :=
  f_X10_greatest_85 M v0 v1 v2 v5 v3
set_option maxRecDepth 20000 in
theorem w_X10_greatest_84 {g : mm_c} (C : mm_ok g cX10_greatest "LessonCardsModel" (some .long) "greatest" 8 0 0 0 0) {M : mm_M} {v0 : Option Nat} {v1 : Int32} {v2 : Int32} {v3 : Int64} {v5 : Int32} {res : (Int64 × Int32) ⊕ (Int64)} (hf : f_X10_greatest_84 M v0 v1 v2 v3 v5 = some res) (ko : (mm_o (h_X10_greatest_5 g M v0 v1 v2) (fun z => mm_q g 0 0 (some (mm_j z)) M)) res) : mm_X g 0 0 M 84 [(0, mm_r v0), (1, mm_i v1), (2, mm_i v2), (3, mm_j v3), (5, mm_i v5)] [] := by
  unfold f_X10_greatest_84 at hf
  refine xr_lload_n 85 3 C dX10_greatest_84 rfl rfl rfl ?_
  refine xr_sub [0, 1, 2, 4] (lv2 := [(0, mm_r v0), (1, mm_i v1), (2, mm_i v2), (5, mm_i v5)]) rfl ?_
  exact w_X10_greatest_85 C hf ko
noncomputable def f_X10_greatest_68 (M : mm_M) (v0 : Option Nat) (v1 : Int32) (v2 : Int32) (v3 : Int64) (v5 : Int32) (s0 : Int64) (s1 : Int32) : Option ((Int64 × Int32) ⊕ (Int64)) :=
  if (lg_cmp (s0 * (s1.toInt64)) v3) ≤ 0 then f_X10_greatest_84 M v0 v1 v2 v3 v5 else f_X10_greatest_79 M v0 v1 v2 v5 (s0 * (s1.toInt64))
set_option maxRecDepth 20000 in
theorem w_X10_greatest_68 {g : mm_c} (C : mm_ok g cX10_greatest "LessonCardsModel" (some .long) "greatest" 8 0 0 0 0) {M : mm_M} {v0 : Option Nat} {v1 : Int32} {v2 : Int32} {v3 : Int64} {v5 : Int32} {s0 : Int64} {s1 : Int32} {res : (Int64 × Int32) ⊕ (Int64)} (hf : f_X10_greatest_68 M v0 v1 v2 v3 v5 s0 s1 = some res) (ko : (mm_o (h_X10_greatest_5 g M v0 v1 v2) (fun z => mm_q g 0 0 (some (mm_j z)) M)) res) : mm_X g 0 0 M 68 [(0, mm_r v0), (1, mm_i v1), (2, mm_i v2), (3, mm_j v3), (5, mm_i v5)] [mm_i s1, mm_j s0] := by
  unfold f_X10_greatest_68 at hf
  refine xr_i2l 69 C dX10_greatest_68 rfl ?_
  refine xr_lmul 70 C dX10_greatest_69 rfl ?_
  refine xr_lstore 72 C dX10_greatest_70 (by decide) rfl [(6, mm_j (s0 * (s1.toInt64))), (0, mm_r v0), (1, mm_i v1), (2, mm_i v2), (3, mm_j v3), (5, mm_i v5)] rfl ?_
  refine xr_lload 74 0 C dX10_greatest_72 rfl rfl ?_
  refine xr_lload_n 75 4 C dX10_greatest_74 rfl rfl rfl ?_
  refine xr_lcmp 76 C dX10_greatest_75 rfl ?_
  refine xr_if_le 84 79 C dX10_greatest_76 (by decide) rfl (fun hc => ?_) (fun hc => ?_)
  · replace hf := (if_pos hc).symm.trans hf
    refine xr_sub [1, 2, 3, 4, 5] (lv2 := [(0, mm_r v0), (1, mm_i v1), (2, mm_i v2), (3, mm_j v3), (5, mm_i v5)]) rfl ?_
    exact w_X10_greatest_84 C hf ko
  · replace hf := (if_neg hc).symm.trans hf
    refine xr_sub [1, 2, 3, 5, 0] (lv2 := [(0, mm_r v0), (1, mm_i v1), (2, mm_i v2), (5, mm_i v5), (6, mm_j (s0 * (s1.toInt64)))]) rfl ?_
    exact w_X10_greatest_79 C hf ko
noncomputable def f_X10_greatest_31 (M : mm_M) (v0 : Option Nat) (v1 : Int32) (v2 : Int32) (v3 : Int64) (v5 : Int32) (s0 : Int64) : Option ((Int64 × Int32) ⊕ (Int64)) :=
  (mm_fI M v0 11 40).bind fun x35 =>
  f_X10_greatest_68 M v0 v1 v2 v3 v5 s0 (1000 - x35)
set_option maxRecDepth 20000 in
theorem w_X10_greatest_31 {g : mm_c} (C : mm_ok g cX10_greatest "LessonCardsModel" (some .long) "greatest" 8 0 0 0 0) {M : mm_M} {v0 : Option Nat} {v1 : Int32} {v2 : Int32} {v3 : Int64} {v5 : Int32} {s0 : Int64} {res : (Int64 × Int32) ⊕ (Int64)} (hf : f_X10_greatest_31 M v0 v1 v2 v3 v5 s0 = some res) (ko : (mm_o (h_X10_greatest_5 g M v0 v1 v2) (fun z => mm_q g 0 0 (some (mm_j z)) M)) res) : mm_X g 0 0 M 31 [(0, mm_r v0), (1, mm_i v1), (2, mm_i v2), (3, mm_j v3), (5, mm_i v5)] [mm_j s0] := by
  unfold f_X10_greatest_31 at hf
  refine xr_sipush 34 C (v := 1000) dX10_greatest_31 (by decide) rfl ?_
  refine xr_aload_n 35 0 C dX10_greatest_34 rfl rfl rfl ?_
  obtain ⟨x35, h35, hf⟩ := mm_bd_e hf
  refine xr_getI 38 C cf_X10_242 rfl h35 dX10_greatest_35 rfl ?_
  refine xr_isub 39 C dX10_greatest_38 rfl ?_
  refine xr_goto 68 C dX10_greatest_39 (by decide) ?_
  exact w_X10_greatest_68 C hf ko
noncomputable def f_X10_greatest_42 (M : mm_M) (v0 : Option Nat) (v1 : Int32) (v2 : Int32) (v3 : Int64) (v5 : Int32) (s0 : Int64) : Option ((Int64 × Int32) ⊕ (Int64)) :=
  (mm_fI M v0 11 40).bind fun x43 =>
  f_X10_greatest_68 M v0 v1 v2 v3 v5 s0 x43
set_option maxRecDepth 20000 in
theorem w_X10_greatest_42 {g : mm_c} (C : mm_ok g cX10_greatest "LessonCardsModel" (some .long) "greatest" 8 0 0 0 0) {M : mm_M} {v0 : Option Nat} {v1 : Int32} {v2 : Int32} {v3 : Int64} {v5 : Int32} {s0 : Int64} {res : (Int64 × Int32) ⊕ (Int64)} (hf : f_X10_greatest_42 M v0 v1 v2 v3 v5 s0 = some res) (ko : (mm_o (h_X10_greatest_5 g M v0 v1 v2) (fun z => mm_q g 0 0 (some (mm_j z)) M)) res) : mm_X g 0 0 M 42 [(0, mm_r v0), (1, mm_i v1), (2, mm_i v2), (3, mm_j v3), (5, mm_i v5)] [mm_j s0] := by
  unfold f_X10_greatest_42 at hf
  refine xr_aload_n 43 0 C dX10_greatest_42 rfl rfl rfl ?_
  obtain ⟨x43, h43, hf⟩ := mm_bd_e hf
  refine xr_getI 46 C cf_X10_242 rfl h43 dX10_greatest_43 rfl ?_
  refine xr_goto 68 C dX10_greatest_46 (by decide) ?_
  exact w_X10_greatest_68 C hf ko
noncomputable def f_X10_greatest_27 (M : mm_M) (v0 : Option Nat) (v1 : Int32) (v2 : Int32) (v3 : Int64) (v5 : Int32) (s0 : Int64) : Option ((Int64 × Int32) ⊕ (Int64)) :=
  if v2 = 0 then f_X10_greatest_42 M v0 v1 v2 v3 v5 s0 else f_X10_greatest_31 M v0 v1 v2 v3 v5 s0
set_option maxRecDepth 20000 in
theorem w_X10_greatest_27 {g : mm_c} (C : mm_ok g cX10_greatest "LessonCardsModel" (some .long) "greatest" 8 0 0 0 0) {M : mm_M} {v0 : Option Nat} {v1 : Int32} {v2 : Int32} {v3 : Int64} {v5 : Int32} {s0 : Int64} {res : (Int64 × Int32) ⊕ (Int64)} (hf : f_X10_greatest_27 M v0 v1 v2 v3 v5 s0 = some res) (ko : (mm_o (h_X10_greatest_5 g M v0 v1 v2) (fun z => mm_q g 0 0 (some (mm_j z)) M)) res) : mm_X g 0 0 M 27 [(0, mm_r v0), (1, mm_i v1), (2, mm_i v2), (3, mm_j v3), (5, mm_i v5)] [mm_j s0] := by
  unfold f_X10_greatest_27 at hf
  refine xr_iload_n 28 2 C dX10_greatest_27 rfl rfl rfl ?_
  refine xr_if_eq 42 31 C dX10_greatest_28 (by decide) rfl (fun hc => ?_) (fun hc => ?_)
  · replace hf := (if_pos hc).symm.trans hf
    exact w_X10_greatest_42 C hf ko
  · replace hf := (if_neg hc).symm.trans hf
    exact w_X10_greatest_31 C hf ko
noncomputable def f_X10_greatest_53 (M : mm_M) (v0 : Option Nat) (v1 : Int32) (v2 : Int32) (v3 : Int64) (v5 : Int32) (s0 : Int64) : Option ((Int64 × Int32) ⊕ (Int64)) :=
  (mm_fI M v0 11 41).bind fun x54 =>
  f_X10_greatest_68 M v0 v1 v2 v3 v5 s0 x54
set_option maxRecDepth 20000 in
theorem w_X10_greatest_53 {g : mm_c} (C : mm_ok g cX10_greatest "LessonCardsModel" (some .long) "greatest" 8 0 0 0 0) {M : mm_M} {v0 : Option Nat} {v1 : Int32} {v2 : Int32} {v3 : Int64} {v5 : Int32} {s0 : Int64} {res : (Int64 × Int32) ⊕ (Int64)} (hf : f_X10_greatest_53 M v0 v1 v2 v3 v5 s0 = some res) (ko : (mm_o (h_X10_greatest_5 g M v0 v1 v2) (fun z => mm_q g 0 0 (some (mm_j z)) M)) res) : mm_X g 0 0 M 53 [(0, mm_r v0), (1, mm_i v1), (2, mm_i v2), (3, mm_j v3), (5, mm_i v5)] [mm_j s0] := by
  unfold f_X10_greatest_53 at hf
  refine xr_aload_n 54 0 C dX10_greatest_53 rfl rfl rfl ?_
  obtain ⟨x54, h54, hf⟩ := mm_bd_e hf
  refine xr_getI 57 C cf_X10_245 rfl h54 dX10_greatest_54 rfl ?_
  refine xr_goto 68 C dX10_greatest_57 (by decide) ?_
  exact w_X10_greatest_68 C hf ko
noncomputable def f_X10_greatest_60 (M : mm_M) (v0 : Option Nat) (v1 : Int32) (v2 : Int32) (v3 : Int64) (v5 : Int32) (s0 : Int64) : Option ((Int64 × Int32) ⊕ (Int64)) :=
  (mm_fI M v0 11 41).bind fun x64 =>
  f_X10_greatest_68 M v0 v1 v2 v3 v5 s0 (1000 - x64)
set_option maxRecDepth 20000 in
theorem w_X10_greatest_60 {g : mm_c} (C : mm_ok g cX10_greatest "LessonCardsModel" (some .long) "greatest" 8 0 0 0 0) {M : mm_M} {v0 : Option Nat} {v1 : Int32} {v2 : Int32} {v3 : Int64} {v5 : Int32} {s0 : Int64} {res : (Int64 × Int32) ⊕ (Int64)} (hf : f_X10_greatest_60 M v0 v1 v2 v3 v5 s0 = some res) (ko : (mm_o (h_X10_greatest_5 g M v0 v1 v2) (fun z => mm_q g 0 0 (some (mm_j z)) M)) res) : mm_X g 0 0 M 60 [(0, mm_r v0), (1, mm_i v1), (2, mm_i v2), (3, mm_j v3), (5, mm_i v5)] [mm_j s0] := by
  unfold f_X10_greatest_60 at hf
  refine xr_sipush 63 C (v := 1000) dX10_greatest_60 (by decide) rfl ?_
  refine xr_aload_n 64 0 C dX10_greatest_63 rfl rfl rfl ?_
  obtain ⟨x64, h64, hf⟩ := mm_bd_e hf
  refine xr_getI 67 C cf_X10_245 rfl h64 dX10_greatest_64 rfl ?_
  refine xr_isub 68 C dX10_greatest_67 rfl ?_
  exact w_X10_greatest_68 C hf ko
noncomputable def f_X10_greatest_49 (M : mm_M) (v0 : Option Nat) (v1 : Int32) (v2 : Int32) (v3 : Int64) (v5 : Int32) (s0 : Int64) : Option ((Int64 × Int32) ⊕ (Int64)) :=
  if v2 = 0 then f_X10_greatest_60 M v0 v1 v2 v3 v5 s0 else f_X10_greatest_53 M v0 v1 v2 v3 v5 s0
set_option maxRecDepth 20000 in
theorem w_X10_greatest_49 {g : mm_c} (C : mm_ok g cX10_greatest "LessonCardsModel" (some .long) "greatest" 8 0 0 0 0) {M : mm_M} {v0 : Option Nat} {v1 : Int32} {v2 : Int32} {v3 : Int64} {v5 : Int32} {s0 : Int64} {res : (Int64 × Int32) ⊕ (Int64)} (hf : f_X10_greatest_49 M v0 v1 v2 v3 v5 s0 = some res) (ko : (mm_o (h_X10_greatest_5 g M v0 v1 v2) (fun z => mm_q g 0 0 (some (mm_j z)) M)) res) : mm_X g 0 0 M 49 [(0, mm_r v0), (1, mm_i v1), (2, mm_i v2), (3, mm_j v3), (5, mm_i v5)] [mm_j s0] := by
  unfold f_X10_greatest_49 at hf
  refine xr_iload_n 50 2 C dX10_greatest_49 rfl rfl rfl ?_
  refine xr_if_eq 60 53 C dX10_greatest_50 (by decide) rfl (fun hc => ?_) (fun hc => ?_)
  · replace hf := (if_pos hc).symm.trans hf
    exact w_X10_greatest_60 C hf ko
  · replace hf := (if_neg hc).symm.trans hf
    exact w_X10_greatest_53 C hf ko
noncomputable def f_X10_greatest_14 (M : mm_M) (v0 : Option Nat) (v1 : Int32) (v2 : Int32) (v3 : Int64) (v5 : Int32) : Option ((Int64 × Int32) ⊕ (Int64)) :=
  (mm_fR M v0 11 38).bind fun x15 =>
  (mm_aL M x15 v5).bind fun x20 =>
  if v5 < v1 then f_X10_greatest_49 M v0 v1 v2 v3 v5 x20 else f_X10_greatest_27 M v0 v1 v2 v3 v5 x20
set_option maxRecDepth 20000 in
theorem w_X10_greatest_14 {g : mm_c} (C : mm_ok g cX10_greatest "LessonCardsModel" (some .long) "greatest" 8 0 0 0 0) {M : mm_M} {v0 : Option Nat} {v1 : Int32} {v2 : Int32} {v3 : Int64} {v5 : Int32} {res : (Int64 × Int32) ⊕ (Int64)} (hf : f_X10_greatest_14 M v0 v1 v2 v3 v5 = some res) (ko : (mm_o (h_X10_greatest_5 g M v0 v1 v2) (fun z => mm_q g 0 0 (some (mm_j z)) M)) res) : mm_X g 0 0 M 14 [(0, mm_r v0), (1, mm_i v1), (2, mm_i v2), (3, mm_j v3), (5, mm_i v5)] [] := by
  unfold f_X10_greatest_14 at hf
  refine xr_aload_n 15 0 C dX10_greatest_14 rfl rfl rfl ?_
  obtain ⟨x15, h15, hf⟩ := mm_bd_e hf
  refine xr_getR 18 C cf_X10_99 rfl h15 dX10_greatest_15 rfl ?_
  refine xr_iload 20 4 C dX10_greatest_18 rfl rfl ?_
  obtain ⟨x20, h20, hf⟩ := mm_bd_e hf
  refine xr_aldL 21 C h20 dX10_greatest_20 rfl ?_
  refine xr_iload 23 4 C dX10_greatest_21 rfl rfl ?_
  refine xr_iload_n 24 1 C dX10_greatest_23 rfl rfl rfl ?_
  refine xr_icmp_lt 49 27 C dX10_greatest_24 (by decide) rfl (fun hc => ?_) (fun hc => ?_)
  · replace hf := (if_pos hc).symm.trans hf
    exact w_X10_greatest_49 C hf ko
  · replace hf := (if_neg hc).symm.trans hf
    exact w_X10_greatest_27 C hf ko
noncomputable def f_X10_greatest_92 (M : mm_M) (v3 : Int64) : Option (Int64) :=
  some v3
set_option maxRecDepth 20000 in
theorem w_X10_greatest_92 {g : mm_c} (C : mm_ok g cX10_greatest "LessonCardsModel" (some .long) "greatest" 8 0 0 0 0) {M : mm_M} {v3 : Int64} {res : Int64} (hf : f_X10_greatest_92 M v3 = some res) (ko : (fun z => mm_q g 0 0 (some (mm_j z)) M) res) : mm_X g 0 0 M 92 [(3, mm_j v3)] [] := by
  unfold f_X10_greatest_92 at hf
  refine xr_lload_n 93 0 C dX10_greatest_92 rfl rfl rfl ?_
  obtain rfl := Option.some.inj hf
  exact xr_lret C ko ⟨(Nat.le_of_ble_eq_true rfl), (Nat.le_of_ble_eq_true rfl)⟩ dX10_greatest_93
noncomputable def f_X10_greatest_5 (M : mm_M) (v0 : Option Nat) (v1 : Int32) (v2 : Int32) (v3 : Int64) (v5 : Int32) : Option ((Int64 × Int32) ⊕ (Int64)) :=
  (mm_fI M v0 11 39).bind fun x8 =>
  if x8 ≤ v5 then mm_mp (f_X10_greatest_92 M v3) else f_X10_greatest_14 M v0 v1 v2 v3 v5
set_option maxRecDepth 20000 in
theorem w_X10_greatest_5 {g : mm_c} (C : mm_ok g cX10_greatest "LessonCardsModel" (some .long) "greatest" 8 0 0 0 0) {M : mm_M} {v0 : Option Nat} {v1 : Int32} {v2 : Int32} {v3 : Int64} {v5 : Int32} {res : (Int64 × Int32) ⊕ (Int64)} (hf : f_X10_greatest_5 M v0 v1 v2 v3 v5 = some res) (ko : (mm_o (h_X10_greatest_5 g M v0 v1 v2) (fun z => mm_q g 0 0 (some (mm_j z)) M)) res) : mm_X g 0 0 M 5 [(0, mm_r v0), (1, mm_i v1), (2, mm_i v2), (3, mm_j v3), (5, mm_i v5)] [] := by
  unfold f_X10_greatest_5 at hf
  refine xr_iload 7 4 C dX10_greatest_5 rfl rfl ?_
  refine xr_aload_n 8 0 C dX10_greatest_7 rfl rfl rfl ?_
  obtain ⟨x8, h8, hf⟩ := mm_bd_e hf
  refine xr_getI 11 C cf_X10_239 rfl h8 dX10_greatest_8 rfl ?_
  refine xr_icmp_ge 92 14 C dX10_greatest_11 (by decide) rfl (fun hc => ?_) (fun hc => ?_)
  · replace hf := (if_pos hc).symm.trans hf
    refine xr_sub [3] (lv2 := [(3, mm_j v3)]) rfl ?_
    obtain ⟨z, hf2, rfl⟩ := mm_mp_e hf
    clear hf
    have hf := hf2
    clear hf2
    exact w_X10_greatest_92 C hf ko
  · replace hf := (if_neg hc).symm.trans hf
    exact w_X10_greatest_14 C hf ko
noncomputable def f_X10_greatest_5w (M : mm_M) (v0 : Option Nat) (v1 : Int32) (v2 : Int32) (v3 : Int64) (v5 : Int32) : Option (Int64) := mm_w (fun x => f_X10_greatest_5 M v0 v1 v2 x.1 x.2) (v3, v5)
theorem l_X10_greatest_5 {g : mm_c} (C : mm_ok g cX10_greatest "LessonCardsModel" (some .long) "greatest" 8 0 0 0 0) {M : mm_M} {v0 : Option Nat} {v1 : Int32} {v2 : Int32} {v3 : Int64} {v5 : Int32} {res : Int64} (hf : f_X10_greatest_5w M v0 v1 v2 v3 v5 = some res) (ko : (fun z => mm_q g 0 0 (some (mm_j z)) M) res) : mm_X g 0 0 M 5 [(0, mm_r v0), (1, mm_i v1), (2, mm_i v2), (3, mm_j v3), (5, mm_i v5)] [] :=
  mm_w_W (body := fun x => f_X10_greatest_5 M v0 v1 v2 x.1 x.2) (Wh := h_X10_greatest_5 g M v0 v1 v2) (ok := (fun z => mm_q g 0 0 (some (mm_j z)) M)) (x := (v3, v5)) (fun x r hb ho => w_X10_greatest_5 C hb ho) hf ko
noncomputable def f_X10_greatest_0 (M : mm_M) (v0 : Option Nat) (v1 : Int32) (v2 : Int32) : Option (Int64) :=
  f_X10_greatest_5w M v0 v1 v2 0 0
set_option maxRecDepth 20000 in
theorem w_X10_greatest_0 {g : mm_c} (C : mm_ok g cX10_greatest "LessonCardsModel" (some .long) "greatest" 8 0 0 0 0) {M : mm_M} {v0 : Option Nat} {v1 : Int32} {v2 : Int32} {res : Int64} (hf : f_X10_greatest_0 M v0 v1 v2 = some res) (ko : (fun z => mm_q g 0 0 (some (mm_j z)) M) res) : mm_X g 0 0 M 0 [(0, mm_r v0), (1, mm_i v1), (2, mm_i v2)] [] := by
  unfold f_X10_greatest_0 at hf
  refine xr_lconst 1 C (v := 0) dX10_greatest_0 (by decide) rfl ?_
  refine xr_lstore_n 2 C dX10_greatest_1 rfl (by decide) rfl [(3, mm_j 0), (0, mm_r v0), (1, mm_i v1), (2, mm_i v2)] rfl ?_
  refine xr_iconst 3 C (v := 0) dX10_greatest_2 (by decide) rfl ?_
  refine xr_istore 5 C dX10_greatest_3 (by decide) rfl [(5, mm_i 0), (3, mm_j 0), (0, mm_r v0), (1, mm_i v1), (2, mm_i v2)] rfl ?_
  refine xr_sub [2, 3, 4, 1, 0] (lv2 := [(0, mm_r v0), (1, mm_i v1), (2, mm_i v2), (3, mm_j 0), (5, mm_i 0)]) rfl ?_
  exact l_X10_greatest_5 C hf ko
noncomputable def f_X10_greatest (M : mm_M) (v0 : Option Nat) (v1 : Int32) (v2 : Int32) : Option (Int64) := f_X10_greatest_0 M v0 v1 v2
theorem c_X10_greatest (l : Launch) (G : va_G) (cy : Nat → ClassId) {M : mm_M} {v0 : Option Nat} {v1 : Int32} {v2 : Int32} {r : Int64} (hf : f_X10_greatest M v0 v1 v2 = some r) : mm_Met l yX10_greatest cX10_greatest 8 (some .long) 0 0 0 0 G cy [mm_r v0, mm_i v1, mm_i v2] M (some (mm_j r)) M :=
  mm_enter (by decide) (Nat.le_of_ble_eq_true rfl) (fun p e R s m args below meth c Q C hq => xr_sub [0, 1, 2] (lv2 := [(0, mm_r v0), (1, mm_i v1), (2, mm_i v2)]) rfl (w_X10_greatest_0 C hf hq))
def h_X10_bestQuestion_4 (g : mm_c) (M : mm_M) (v0 : Option Nat) : (Int32 × Int32) → Prop := fun x => mm_X g 0 0 M 4 [(0, mm_r v0), (1, mm_i x.1), (2, mm_i x.2)] []
noncomputable def f_X10_bestQuestion_47 (M : mm_M) (v0 : Option Nat) (v2 : Int32) (s0 : Int32) : Option ((Int32 × Int32) ⊕ (Int32)) :=
  some (.inl (s0, (v2 + 1)))
set_option maxRecDepth 20000 in
theorem w_X10_bestQuestion_47 {g : mm_c} (C : mm_ok g cX10_bestQuestion "LessonCardsModel" (some .int) "bestQuestion" 3 1 27 0 0) {M : mm_M} {v0 : Option Nat} {v2 : Int32} {s0 : Int32} {res : (Int32 × Int32) ⊕ (Int32)} (hf : f_X10_bestQuestion_47 M v0 v2 s0 = some res) (ko : (mm_o (h_X10_bestQuestion_4 g M v0) (fun z => mm_q g 0 0 (some (mm_i z)) M)) res) : mm_X g 0 0 M 47 [(0, mm_r v0), (2, mm_i v2)] [mm_i s0] := by
  unfold f_X10_bestQuestion_47 at hf
  refine xr_istore_n 48 C dX10_bestQuestion_47 rfl (by decide) rfl [(1, mm_i s0), (0, mm_r v0), (2, mm_i v2)] rfl ?_
  refine xr_iinc 51 2 C dX10_bestQuestion_48 rfl (by decide) (v := 1) (by decide) rfl [(2, mm_i (v2 + 1)), (1, mm_i s0), (0, mm_r v0)] rfl ?_
  refine xr_goto 4 C dX10_bestQuestion_51 (by decide) ?_
  refine xr_sub [2, 1, 0] (lv2 := [(0, mm_r v0), (1, mm_i s0), (2, mm_i (v2 + 1))]) rfl ?_
  obtain rfl := Option.some.inj hf
  exact ko
noncomputable def f_X10_bestQuestion_42 (M : mm_M) (v0 : Option Nat) (v2 : Int32) : Option ((Int32 × Int32) ⊕ (Int32)) :=
  f_X10_bestQuestion_47 M v0 v2 v2
set_option maxRecDepth 20000 in
theorem w_X10_bestQuestion_42 {g : mm_c} (C : mm_ok g cX10_bestQuestion "LessonCardsModel" (some .int) "bestQuestion" 3 1 27 0 0) {M : mm_M} {v0 : Option Nat} {v2 : Int32} {res : (Int32 × Int32) ⊕ (Int32)} (hf : f_X10_bestQuestion_42 M v0 v2 = some res) (ko : (mm_o (h_X10_bestQuestion_4 g M v0) (fun z => mm_q g 0 0 (some (mm_i z)) M)) res) : mm_X g 0 0 M 42 [(0, mm_r v0), (2, mm_i v2)] [] := by
  unfold f_X10_bestQuestion_42 at hf
  refine xr_iload_n 43 1 C dX10_bestQuestion_42 rfl rfl rfl ?_
  refine xr_goto 47 C dX10_bestQuestion_43 (by decide) ?_
  exact w_X10_bestQuestion_47 C hf ko
noncomputable def f_X10_bestQuestion_46 (M : mm_M) (v0 : Option Nat) (v1 : Int32) (v2 : Int32) : Option ((Int32 × Int32) ⊕ (Int32)) :=
  f_X10_bestQuestion_47 M v0 v2 v1
set_option maxRecDepth 20000 in
theorem w_X10_bestQuestion_46 {g : mm_c} (C : mm_ok g cX10_bestQuestion "LessonCardsModel" (some .int) "bestQuestion" 3 1 27 0 0) {M : mm_M} {v0 : Option Nat} {v1 : Int32} {v2 : Int32} {res : (Int32 × Int32) ⊕ (Int32)} (hf : f_X10_bestQuestion_46 M v0 v1 v2 = some res) (ko : (mm_o (h_X10_bestQuestion_4 g M v0) (fun z => mm_q g 0 0 (some (mm_i z)) M)) res) : mm_X g 0 0 M 46 [(0, mm_r v0), (1, mm_i v1), (2, mm_i v2)] [] := by
  unfold f_X10_bestQuestion_46 at hf
  refine xr_iload_n 47 1 C dX10_bestQuestion_46 rfl rfl rfl ?_
  refine xr_sub [0, 2] (lv2 := [(0, mm_r v0), (2, mm_i v2)]) rfl ?_
  exact w_X10_bestQuestion_47 C hf ko
noncomputable def f_X10_bestQuestion_12 (M : mm_M) (v0 : Option Nat) (v1 : Int32) (v2 : Int32) : Option ((Int32 × Int32) ⊕ (Int32)) :=
  (mm_rc M v0 11).bind fun u15 =>
  (f_X10_greatest M v0 v2 1).bind fun x15 =>
  (mm_rc M v0 11).bind fun u21 =>
  (f_X10_greatest M v0 v2 0).bind fun x21 =>
  (mm_rc M v0 11).bind fun u28 =>
  (f_X10_greatest M v0 v1 1).bind fun x28 =>
  (mm_rc M v0 11).bind fun u34 =>
  (f_X10_greatest M v0 v1 0).bind fun x34 =>
  if (lg_cmp (x15 + x21) (x28 + x34)) ≤ 0 then f_X10_bestQuestion_46 M v0 v1 v2 else f_X10_bestQuestion_42 M v0 v2
set_option maxRecDepth 20000 in
theorem w_X10_bestQuestion_12 {g : mm_c} (C : mm_ok g cX10_bestQuestion "LessonCardsModel" (some .int) "bestQuestion" 3 1 27 0 0) {M : mm_M} {v0 : Option Nat} {v1 : Int32} {v2 : Int32} {res : (Int32 × Int32) ⊕ (Int32)} (hf : f_X10_bestQuestion_12 M v0 v1 v2 = some res) (ko : (mm_o (h_X10_bestQuestion_4 g M v0) (fun z => mm_q g 0 0 (some (mm_i z)) M)) res) : mm_X g 0 0 M 12 [(0, mm_r v0), (1, mm_i v1), (2, mm_i v2)] [] := by
  unfold f_X10_bestQuestion_12 at hf
  refine xr_aload_n 13 0 C dX10_bestQuestion_12 rfl rfl rfl ?_
  refine xr_iload_n 14 2 C dX10_bestQuestion_13 rfl rfl rfl ?_
  refine xr_iconst 15 C (v := 1) dX10_bestQuestion_14 (by decide) rfl ?_
  obtain ⟨u15, g15, hf⟩ := mm_bd_e hf
  obtain ⟨x15, h15, hf⟩ := mm_bd_e hf
  refine xr_callV 18 C [mm_i v2, mm_i 1] cm_X10_248 (fun l G cy => c_X10_greatest l G cy h15) g15 rfl rfl ⟨⟨Nat.le_of_ble_eq_true rfl, Nat.le_of_ble_eq_true rfl⟩, (Nat.le_of_ble_eq_true rfl), (Nat.le_of_ble_eq_true rfl)⟩ (Nat.le_of_ble_eq_true rfl) dX10_bestQuestion_15 rfl ?_
  refine xr_aload_n 19 0 C dX10_bestQuestion_18 rfl rfl rfl ?_
  refine xr_iload_n 20 2 C dX10_bestQuestion_19 rfl rfl rfl ?_
  refine xr_iconst 21 C (v := 0) dX10_bestQuestion_20 (by decide) rfl ?_
  obtain ⟨u21, g21, hf⟩ := mm_bd_e hf
  obtain ⟨x21, h21, hf⟩ := mm_bd_e hf
  refine xr_callV 24 C [mm_i v2, mm_i 0] cm_X10_248 (fun l G cy => c_X10_greatest l G cy h21) g21 rfl rfl ⟨⟨Nat.le_of_ble_eq_true rfl, Nat.le_of_ble_eq_true rfl⟩, (Nat.le_of_ble_eq_true rfl), (Nat.le_of_ble_eq_true rfl)⟩ (Nat.le_of_ble_eq_true rfl) dX10_bestQuestion_21 rfl ?_
  refine xr_ladd 25 C dX10_bestQuestion_24 rfl ?_
  refine xr_aload_n 26 0 C dX10_bestQuestion_25 rfl rfl rfl ?_
  refine xr_iload_n 27 1 C dX10_bestQuestion_26 rfl rfl rfl ?_
  refine xr_iconst 28 C (v := 1) dX10_bestQuestion_27 (by decide) rfl ?_
  obtain ⟨u28, g28, hf⟩ := mm_bd_e hf
  obtain ⟨x28, h28, hf⟩ := mm_bd_e hf
  refine xr_callV 31 C [mm_i v1, mm_i 1] cm_X10_248 (fun l G cy => c_X10_greatest l G cy h28) g28 rfl rfl ⟨⟨Nat.le_of_ble_eq_true rfl, Nat.le_of_ble_eq_true rfl⟩, (Nat.le_of_ble_eq_true rfl), (Nat.le_of_ble_eq_true rfl)⟩ (Nat.le_of_ble_eq_true rfl) dX10_bestQuestion_28 rfl ?_
  refine xr_aload_n 32 0 C dX10_bestQuestion_31 rfl rfl rfl ?_
  refine xr_iload_n 33 1 C dX10_bestQuestion_32 rfl rfl rfl ?_
  refine xr_iconst 34 C (v := 0) dX10_bestQuestion_33 (by decide) rfl ?_
  obtain ⟨u34, g34, hf⟩ := mm_bd_e hf
  obtain ⟨x34, h34, hf⟩ := mm_bd_e hf
  refine xr_callV 37 C [mm_i v1, mm_i 0] cm_X10_248 (fun l G cy => c_X10_greatest l G cy h34) g34 rfl rfl ⟨⟨Nat.le_of_ble_eq_true rfl, Nat.le_of_ble_eq_true rfl⟩, (Nat.le_of_ble_eq_true rfl), (Nat.le_of_ble_eq_true rfl)⟩ (Nat.le_of_ble_eq_true rfl) dX10_bestQuestion_34 rfl ?_
  refine xr_ladd 38 C dX10_bestQuestion_37 rfl ?_
  refine xr_lcmp 39 C dX10_bestQuestion_38 rfl ?_
  refine xr_if_le 46 42 C dX10_bestQuestion_39 (by decide) rfl (fun hc => ?_) (fun hc => ?_)
  · replace hf := (if_pos hc).symm.trans hf
    exact w_X10_bestQuestion_46 C hf ko
  · replace hf := (if_neg hc).symm.trans hf
    refine xr_sub [0, 2] (lv2 := [(0, mm_r v0), (2, mm_i v2)]) rfl ?_
    exact w_X10_bestQuestion_42 C hf ko
noncomputable def f_X10_bestQuestion_54 (M : mm_M) (v1 : Int32) : Option (Int32) :=
  some v1
set_option maxRecDepth 20000 in
theorem w_X10_bestQuestion_54 {g : mm_c} (C : mm_ok g cX10_bestQuestion "LessonCardsModel" (some .int) "bestQuestion" 3 1 27 0 0) {M : mm_M} {v1 : Int32} {res : Int32} (hf : f_X10_bestQuestion_54 M v1 = some res) (ko : (fun z => mm_q g 0 0 (some (mm_i z)) M) res) : mm_X g 0 0 M 54 [(1, mm_i v1)] [] := by
  unfold f_X10_bestQuestion_54 at hf
  refine xr_iload_n 55 0 C dX10_bestQuestion_54 rfl rfl rfl ?_
  obtain rfl := Option.some.inj hf
  exact xr_iret C ko ⟨(Nat.le_of_ble_eq_true rfl), (Nat.le_of_ble_eq_true rfl)⟩ dX10_bestQuestion_55
noncomputable def f_X10_bestQuestion_4 (M : mm_M) (v0 : Option Nat) (v1 : Int32) (v2 : Int32) : Option ((Int32 × Int32) ⊕ (Int32)) :=
  (mm_fI M v0 11 39).bind fun x6 =>
  if x6 ≤ v2 then mm_mp (f_X10_bestQuestion_54 M v1) else f_X10_bestQuestion_12 M v0 v1 v2
set_option maxRecDepth 20000 in
theorem w_X10_bestQuestion_4 {g : mm_c} (C : mm_ok g cX10_bestQuestion "LessonCardsModel" (some .int) "bestQuestion" 3 1 27 0 0) {M : mm_M} {v0 : Option Nat} {v1 : Int32} {v2 : Int32} {res : (Int32 × Int32) ⊕ (Int32)} (hf : f_X10_bestQuestion_4 M v0 v1 v2 = some res) (ko : (mm_o (h_X10_bestQuestion_4 g M v0) (fun z => mm_q g 0 0 (some (mm_i z)) M)) res) : mm_X g 0 0 M 4 [(0, mm_r v0), (1, mm_i v1), (2, mm_i v2)] [] := by
  unfold f_X10_bestQuestion_4 at hf
  refine xr_iload_n 5 2 C dX10_bestQuestion_4 rfl rfl rfl ?_
  refine xr_aload_n 6 0 C dX10_bestQuestion_5 rfl rfl rfl ?_
  obtain ⟨x6, h6, hf⟩ := mm_bd_e hf
  refine xr_getI 9 C cf_X10_239 rfl h6 dX10_bestQuestion_6 rfl ?_
  refine xr_icmp_ge 54 12 C dX10_bestQuestion_9 (by decide) rfl (fun hc => ?_) (fun hc => ?_)
  · replace hf := (if_pos hc).symm.trans hf
    refine xr_sub [1] (lv2 := [(1, mm_i v1)]) rfl ?_
    obtain ⟨z, hf2, rfl⟩ := mm_mp_e hf
    clear hf
    have hf := hf2
    clear hf2
    exact w_X10_bestQuestion_54 C hf ko
  · replace hf := (if_neg hc).symm.trans hf
    exact w_X10_bestQuestion_12 C hf ko
noncomputable def f_X10_bestQuestion_4w (M : mm_M) (v0 : Option Nat) (v1 : Int32) (v2 : Int32) : Option (Int32) := mm_w (fun x => f_X10_bestQuestion_4 M v0 x.1 x.2) (v1, v2)
theorem l_X10_bestQuestion_4 {g : mm_c} (C : mm_ok g cX10_bestQuestion "LessonCardsModel" (some .int) "bestQuestion" 3 1 27 0 0) {M : mm_M} {v0 : Option Nat} {v1 : Int32} {v2 : Int32} {res : Int32} (hf : f_X10_bestQuestion_4w M v0 v1 v2 = some res) (ko : (fun z => mm_q g 0 0 (some (mm_i z)) M) res) : mm_X g 0 0 M 4 [(0, mm_r v0), (1, mm_i v1), (2, mm_i v2)] [] :=
  mm_w_W (body := fun x => f_X10_bestQuestion_4 M v0 x.1 x.2) (Wh := h_X10_bestQuestion_4 g M v0) (ok := (fun z => mm_q g 0 0 (some (mm_i z)) M)) (x := (v1, v2)) (fun x r hb ho => w_X10_bestQuestion_4 C hb ho) hf ko
noncomputable def f_X10_bestQuestion_0 (M : mm_M) (v0 : Option Nat) : Option (Int32) :=
  f_X10_bestQuestion_4w M v0 1 2
set_option maxRecDepth 20000 in
theorem w_X10_bestQuestion_0 {g : mm_c} (C : mm_ok g cX10_bestQuestion "LessonCardsModel" (some .int) "bestQuestion" 3 1 27 0 0) {M : mm_M} {v0 : Option Nat} {res : Int32} (hf : f_X10_bestQuestion_0 M v0 = some res) (ko : (fun z => mm_q g 0 0 (some (mm_i z)) M) res) : mm_X g 0 0 M 0 [(0, mm_r v0)] [] := by
  unfold f_X10_bestQuestion_0 at hf
  refine xr_iconst 1 C (v := 1) dX10_bestQuestion_0 (by decide) rfl ?_
  refine xr_istore_n 2 C dX10_bestQuestion_1 rfl (by decide) rfl [(1, mm_i 1), (0, mm_r v0)] rfl ?_
  refine xr_iconst 3 C (v := 2) dX10_bestQuestion_2 (by decide) rfl ?_
  refine xr_istore_n 4 C dX10_bestQuestion_3 rfl (by decide) rfl [(2, mm_i 2), (1, mm_i 1), (0, mm_r v0)] rfl ?_
  refine xr_sub [2, 1, 0] (lv2 := [(0, mm_r v0), (1, mm_i 1), (2, mm_i 2)]) rfl ?_
  exact l_X10_bestQuestion_4 C hf ko
noncomputable def f_X10_bestQuestion (M : mm_M) (v0 : Option Nat) : Option (Int32) := f_X10_bestQuestion_0 M v0
theorem c_X10_bestQuestion (l : Launch) (G : va_G) (cy : Nat → ClassId) {M : mm_M} {v0 : Option Nat} {r : Int32} (hf : f_X10_bestQuestion M v0 = some r) : mm_Met l yX10_bestQuestion cX10_bestQuestion 3 (some .int) 1 27 0 0 G cy [mm_r v0] M (some (mm_i r)) M :=
  mm_enter (by decide) (Nat.le_of_ble_eq_true rfl) (fun p e R s m args below meth c Q C hq => xr_sub [0] (lv2 := [(0, mm_r v0)]) rfl (w_X10_bestQuestion_0 C hf hq))
def h_X10_test_62 (g : mm_c) (v0 : Option Nat) (v1 : Int32) : (mm_M × Int32) → Prop := fun x => mm_X g 0 0 x.1 62 [(0, mm_r v0), (1, mm_i v1), (4, mm_i x.2)] []
noncomputable def f_X10_test_32 (M : mm_M) : Option (Int32 × mm_M) :=
  some ((-1), M)
set_option maxRecDepth 20000 in
theorem w_X10_test_32 {g : mm_c} (C : mm_ok g cX10_test "LessonCardsModel" (some .int) "test" 5 2 49 0 0) {M : mm_M} {res : Int32 × mm_M} (hf : f_X10_test_32 M = some res) (ko : (fun z => mm_q g 0 0 (some (mm_i z.1)) z.2) res) : mm_X g 0 0 M 32 [] [] := by
  unfold f_X10_test_32 at hf
  refine xr_iconst 33 C (v := (-1)) dX10_test_32 (by decide) rfl ?_
  obtain rfl := Option.some.inj hf
  exact xr_iret C ko ⟨(Nat.le_of_ble_eq_true rfl), (Nat.le_of_ble_eq_true rfl)⟩ dX10_test_33
noncomputable def f_X10_test_86 (M : mm_M) (v0 : Option Nat) (v1 : Int32) (v4 : Int32) (s0 : Option Nat) (s1 : Int32) (s2 : Int64) : Option ((mm_M × Int32) ⊕ (Int32 × mm_M)) :=
  (mm_tL M s0 s1 s2).bind fun M86 =>
  some (.inl (M86, (v4 + 1)))
set_option maxRecDepth 20000 in
theorem w_X10_test_86 {g : mm_c} (C : mm_ok g cX10_test "LessonCardsModel" (some .int) "test" 5 2 49 0 0) {M : mm_M} {v0 : Option Nat} {v1 : Int32} {v4 : Int32} {s0 : Option Nat} {s1 : Int32} {s2 : Int64} {res : (mm_M × Int32) ⊕ (Int32 × mm_M)} (hf : f_X10_test_86 M v0 v1 v4 s0 s1 s2 = some res) (ko : (mm_o (h_X10_test_62 g v0 v1) (fun z => mm_q g 0 0 (some (mm_i z.1)) z.2)) res) : mm_X g 0 0 M 86 [(0, mm_r v0), (1, mm_i v1), (4, mm_i v4)] [mm_j s2, mm_i s1, mm_r s0] := by
  unfold f_X10_test_86 at hf
  obtain ⟨M86, h86, hf⟩ := mm_bd_e hf
  refine xr_astL 87 C h86 dX10_test_86 rfl ?_
  refine xr_iinc 90 2 C dX10_test_87 rfl (by decide) (v := 1) (by decide) rfl [(4, mm_i (v4 + 1)), (0, mm_r v0), (1, mm_i v1)] rfl ?_
  refine xr_goto 62 C dX10_test_90 (by decide) ?_
  refine xr_sub [1, 2, 0] (lv2 := [(0, mm_r v0), (1, mm_i v1), (4, mm_i (v4 + 1))]) rfl ?_
  obtain rfl := Option.some.inj hf
  exact ko
noncomputable def f_X10_test_81 (M : mm_M) (v0 : Option Nat) (v1 : Int32) (v4 : Int32) (s0 : Option Nat) (s1 : Int32) : Option ((mm_M × Int32) ⊕ (Int32 × mm_M)) :=
  f_X10_test_86 M v0 v1 v4 s0 s1 1
set_option maxRecDepth 20000 in
theorem w_X10_test_81 {g : mm_c} (C : mm_ok g cX10_test "LessonCardsModel" (some .int) "test" 5 2 49 0 0) {M : mm_M} {v0 : Option Nat} {v1 : Int32} {v4 : Int32} {s0 : Option Nat} {s1 : Int32} {res : (mm_M × Int32) ⊕ (Int32 × mm_M)} (hf : f_X10_test_81 M v0 v1 v4 s0 s1 = some res) (ko : (mm_o (h_X10_test_62 g v0 v1) (fun z => mm_q g 0 0 (some (mm_i z.1)) z.2)) res) : mm_X g 0 0 M 81 [(0, mm_r v0), (1, mm_i v1), (4, mm_i v4)] [mm_i s1, mm_r s0] := by
  unfold f_X10_test_81 at hf
  refine xr_lconst 82 C (v := 1) dX10_test_81 (by decide) rfl ?_
  refine xr_goto 86 C dX10_test_82 (by decide) ?_
  exact w_X10_test_86 C hf ko
noncomputable def f_X10_test_85 (M : mm_M) (v0 : Option Nat) (v1 : Int32) (v4 : Int32) (s0 : Option Nat) (s1 : Int32) : Option ((mm_M × Int32) ⊕ (Int32 × mm_M)) :=
  f_X10_test_86 M v0 v1 v4 s0 s1 0
set_option maxRecDepth 20000 in
theorem w_X10_test_85 {g : mm_c} (C : mm_ok g cX10_test "LessonCardsModel" (some .int) "test" 5 2 49 0 0) {M : mm_M} {v0 : Option Nat} {v1 : Int32} {v4 : Int32} {s0 : Option Nat} {s1 : Int32} {res : (mm_M × Int32) ⊕ (Int32 × mm_M)} (hf : f_X10_test_85 M v0 v1 v4 s0 s1 = some res) (ko : (mm_o (h_X10_test_62 g v0 v1) (fun z => mm_q g 0 0 (some (mm_i z.1)) z.2)) res) : mm_X g 0 0 M 85 [(0, mm_r v0), (1, mm_i v1), (4, mm_i v4)] [mm_i s1, mm_r s0] := by
  unfold f_X10_test_85 at hf
  refine xr_lconst 86 C (v := 0) dX10_test_85 (by decide) rfl ?_
  exact w_X10_test_86 C hf ko
noncomputable def f_X10_test_69 (M : mm_M) (v0 : Option Nat) (v1 : Int32) (v4 : Int32) : Option ((mm_M × Int32) ⊕ (Int32 × mm_M)) :=
  (mm_fR M v0 11 38).bind fun x70 =>
  if v1 ≤ v4 then f_X10_test_85 M v0 v1 v4 x70 v4 else f_X10_test_81 M v0 v1 v4 x70 v4
set_option maxRecDepth 20000 in
theorem w_X10_test_69 {g : mm_c} (C : mm_ok g cX10_test "LessonCardsModel" (some .int) "test" 5 2 49 0 0) {M : mm_M} {v0 : Option Nat} {v1 : Int32} {v4 : Int32} {res : (mm_M × Int32) ⊕ (Int32 × mm_M)} (hf : f_X10_test_69 M v0 v1 v4 = some res) (ko : (mm_o (h_X10_test_62 g v0 v1) (fun z => mm_q g 0 0 (some (mm_i z.1)) z.2)) res) : mm_X g 0 0 M 69 [(0, mm_r v0), (1, mm_i v1), (4, mm_i v4)] [] := by
  unfold f_X10_test_69 at hf
  refine xr_aload_n 70 0 C dX10_test_69 rfl rfl rfl ?_
  obtain ⟨x70, h70, hf⟩ := mm_bd_e hf
  refine xr_getR 73 C cf_X10_99 rfl h70 dX10_test_70 rfl ?_
  refine xr_iload 75 2 C dX10_test_73 rfl rfl ?_
  refine xr_iload 77 2 C dX10_test_75 rfl rfl ?_
  refine xr_iload_n 78 1 C dX10_test_77 rfl rfl rfl ?_
  refine xr_icmp_ge 85 81 C dX10_test_78 (by decide) rfl (fun hc => ?_) (fun hc => ?_)
  · replace hf := (if_pos hc).symm.trans hf
    exact w_X10_test_85 C hf ko
  · replace hf := (if_neg hc).symm.trans hf
    exact w_X10_test_81 C hf ko
noncomputable def f_X10_test_93 (M : mm_M) (v0 : Option Nat) : Option (Int32 × mm_M) :=
  (mm_rc M v0 11).bind fun u94 =>
  (f_X10_bestQuestion M v0).bind fun x94 =>
  some (x94, M)
set_option maxRecDepth 20000 in
theorem w_X10_test_93 {g : mm_c} (C : mm_ok g cX10_test "LessonCardsModel" (some .int) "test" 5 2 49 0 0) {M : mm_M} {v0 : Option Nat} {res : Int32 × mm_M} (hf : f_X10_test_93 M v0 = some res) (ko : (fun z => mm_q g 0 0 (some (mm_i z.1)) z.2) res) : mm_X g 0 0 M 93 [(0, mm_r v0)] [] := by
  unfold f_X10_test_93 at hf
  refine xr_aload_n 94 0 C dX10_test_93 rfl rfl rfl ?_
  obtain ⟨u94, g94, hf⟩ := mm_bd_e hf
  obtain ⟨x94, h94, hf⟩ := mm_bd_e hf
  refine xr_callV 97 C [] cm_X10_255 (fun l G cy => c_X10_bestQuestion l G cy h94) g94 rfl rfl ⟨⟨Nat.le_of_ble_eq_true rfl, Nat.le_of_ble_eq_true rfl⟩, (Nat.le_of_ble_eq_true rfl), (Nat.le_of_ble_eq_true rfl)⟩ (Nat.le_of_ble_eq_true rfl) dX10_test_94 rfl ?_
  obtain rfl := Option.some.inj hf
  exact xr_iret C ko ⟨(Nat.le_of_ble_eq_true rfl), (Nat.le_of_ble_eq_true rfl)⟩ dX10_test_97
noncomputable def f_X10_test_62 (M : mm_M) (v0 : Option Nat) (v1 : Int32) (v4 : Int32) : Option ((mm_M × Int32) ⊕ (Int32 × mm_M)) :=
  if 8 ≤ v4 then mm_mp (f_X10_test_93 M v0) else f_X10_test_69 M v0 v1 v4
set_option maxRecDepth 20000 in
theorem w_X10_test_62 {g : mm_c} (C : mm_ok g cX10_test "LessonCardsModel" (some .int) "test" 5 2 49 0 0) {M : mm_M} {v0 : Option Nat} {v1 : Int32} {v4 : Int32} {res : (mm_M × Int32) ⊕ (Int32 × mm_M)} (hf : f_X10_test_62 M v0 v1 v4 = some res) (ko : (mm_o (h_X10_test_62 g v0 v1) (fun z => mm_q g 0 0 (some (mm_i z.1)) z.2)) res) : mm_X g 0 0 M 62 [(0, mm_r v0), (1, mm_i v1), (4, mm_i v4)] [] := by
  unfold f_X10_test_62 at hf
  refine xr_iload 64 2 C dX10_test_62 rfl rfl ?_
  refine xr_bipush 66 C (v := 8) dX10_test_64 (by decide) rfl ?_
  refine xr_icmp_ge 93 69 C dX10_test_66 (by decide) rfl (fun hc => ?_) (fun hc => ?_)
  · replace hf := (if_pos hc).symm.trans hf
    refine xr_sub [0] (lv2 := [(0, mm_r v0)]) rfl ?_
    obtain ⟨z, hf2, rfl⟩ := mm_mp_e hf
    clear hf
    have hf := hf2
    clear hf2
    exact w_X10_test_93 C hf ko
  · replace hf := (if_neg hc).symm.trans hf
    exact w_X10_test_69 C hf ko
noncomputable def f_X10_test_62w (M : mm_M) (v0 : Option Nat) (v1 : Int32) (v4 : Int32) : Option (Int32 × mm_M) := mm_w (fun x => f_X10_test_62 x.1 v0 v1 x.2) (M, v4)
theorem l_X10_test_62 {g : mm_c} (C : mm_ok g cX10_test "LessonCardsModel" (some .int) "test" 5 2 49 0 0) {M : mm_M} {v0 : Option Nat} {v1 : Int32} {v4 : Int32} {res : Int32 × mm_M} (hf : f_X10_test_62w M v0 v1 v4 = some res) (ko : (fun z => mm_q g 0 0 (some (mm_i z.1)) z.2) res) : mm_X g 0 0 M 62 [(0, mm_r v0), (1, mm_i v1), (4, mm_i v4)] [] :=
  mm_w_W (body := fun x => f_X10_test_62 x.1 v0 v1 x.2) (Wh := h_X10_test_62 g v0 v1) (ok := (fun z => mm_q g 0 0 (some (mm_i z.1)) z.2)) (x := (M, v4)) (fun x r hb ho => w_X10_test_62 C hb ho) hf ko
noncomputable def f_X10_test_34 (M : mm_M) (v0 : Option Nat) (v1 : Int32) (v2 : Int32) (v3 : Int32) : Option (Int32 × mm_M) :=
  (mm_pI M v0 11 39 v1).bind fun M36 =>
  (mm_pI M36 v0 11 40 v2).bind fun M41 =>
  (mm_pI M41 v0 11 41 v3).bind fun M46 =>
  (mm_pI M46 v0 11 42 0).bind fun M51 =>
  (mm_pZ M51 v0 11 43 0).bind fun M56 =>
  f_X10_test_62w M56 v0 v1 0
set_option maxRecDepth 20000 in
theorem w_X10_test_34 {g : mm_c} (C : mm_ok g cX10_test "LessonCardsModel" (some .int) "test" 5 2 49 0 0) {M : mm_M} {v0 : Option Nat} {v1 : Int32} {v2 : Int32} {v3 : Int32} {res : Int32 × mm_M} (hf : f_X10_test_34 M v0 v1 v2 v3 = some res) (ko : (fun z => mm_q g 0 0 (some (mm_i z.1)) z.2) res) : mm_X g 0 0 M 34 [(0, mm_r v0), (1, mm_i v1), (2, mm_i v2), (3, mm_i v3)] [] := by
  unfold f_X10_test_34 at hf
  refine xr_aload_n 35 0 C dX10_test_34 rfl rfl rfl ?_
  refine xr_iload_n 36 1 C dX10_test_35 rfl rfl rfl ?_
  obtain ⟨M36, h36, hf⟩ := mm_bd_e hf
  refine xr_putI 39 C cf_X10_239 (fun h => by cases h) h36 dX10_test_36 rfl ?_
  refine xr_aload_n 40 0 C dX10_test_39 rfl rfl rfl ?_
  refine xr_iload_n 41 2 C dX10_test_40 rfl rfl rfl ?_
  obtain ⟨M41, h41, hf⟩ := mm_bd_e hf
  refine xr_putI 44 C cf_X10_242 (fun h => by cases h) h41 dX10_test_41 rfl ?_
  refine xr_aload_n 45 0 C dX10_test_44 rfl rfl rfl ?_
  refine xr_iload_n 46 3 C dX10_test_45 rfl rfl rfl ?_
  obtain ⟨M46, h46, hf⟩ := mm_bd_e hf
  refine xr_putI 49 C cf_X10_245 (fun h => by cases h) h46 dX10_test_46 rfl ?_
  refine xr_aload_n 50 0 C dX10_test_49 rfl rfl rfl ?_
  refine xr_iconst 51 C (v := 0) dX10_test_50 (by decide) rfl ?_
  obtain ⟨M51, h51, hf⟩ := mm_bd_e hf
  refine xr_putI 54 C cf_X10_252 (fun h => by cases h) h51 dX10_test_51 rfl ?_
  refine xr_aload_n 55 0 C dX10_test_54 rfl rfl rfl ?_
  refine xr_iconst 56 C (v := 0) dX10_test_55 (by decide) rfl ?_
  obtain ⟨M56, h56, hf⟩ := mm_bd_e hf
  refine xr_putZ 59 C cf_X10_103 (fun h => by cases h) h56 dX10_test_56 rfl ?_
  refine xr_iconst 60 C (v := 0) dX10_test_59 (by decide) rfl ?_
  refine xr_istore 62 C dX10_test_60 (by decide) rfl [(4, mm_i 0), (0, mm_r v0), (1, mm_i v1), (2, mm_i v2), (3, mm_i v3)] rfl ?_
  refine xr_sub [1, 2, 0] (lv2 := [(0, mm_r v0), (1, mm_i v1), (4, mm_i 0)]) rfl ?_
  exact l_X10_test_62 C hf ko
noncomputable def f_X10_test_21 (M : mm_M) (v0 : Option Nat) (v1 : Int32) (v2 : Int32) (v3 : Int32) : Option (Int32 × mm_M) :=
  (f_X10_within M v3 1 499).bind fun x26 =>
  if x26 = 0 then f_X10_test_32 M else f_X10_test_34 M v0 v1 v2 v3
set_option maxRecDepth 20000 in
theorem w_X10_test_21 {g : mm_c} (C : mm_ok g cX10_test "LessonCardsModel" (some .int) "test" 5 2 49 0 0) {M : mm_M} {v0 : Option Nat} {v1 : Int32} {v2 : Int32} {v3 : Int32} {res : Int32 × mm_M} (hf : f_X10_test_21 M v0 v1 v2 v3 = some res) (ko : (fun z => mm_q g 0 0 (some (mm_i z.1)) z.2) res) : mm_X g 0 0 M 21 [(0, mm_r v0), (1, mm_i v1), (2, mm_i v2), (3, mm_i v3)] [] := by
  unfold f_X10_test_21 at hf
  refine xr_iload_n 22 3 C dX10_test_21 rfl rfl rfl ?_
  refine xr_iconst 23 C (v := 1) dX10_test_22 (by decide) rfl ?_
  refine xr_sipush 26 C (v := 499) dX10_test_23 (by decide) rfl ?_
  obtain ⟨x26, h26, hf⟩ := mm_bd_e hf
  refine xr_callS 29 C [mm_i v3, mm_i 1, mm_i 499] cm_X10_123 (fun l G cy => c_X10_within l G cy h26) rfl rfl ⟨⟨Nat.le_of_ble_eq_true rfl, Nat.le_of_ble_eq_true rfl⟩, (Nat.le_of_ble_eq_true rfl), (Nat.le_of_ble_eq_true rfl)⟩ (Nat.le_of_ble_eq_true rfl) dX10_test_26 rfl ?_
  refine xr_if_ne 34 32 C dX10_test_29 (by decide) rfl (fun hc => ?_) (fun hc => ?_)
  · replace hf := (if_neg hc).symm.trans hf
    exact w_X10_test_34 C hf ko
  · replace hf := (if_pos hc).symm.trans hf
    refine xr_sub [] (lv2 := []) rfl ?_
    exact w_X10_test_32 C hf ko
noncomputable def f_X10_test_10 (M : mm_M) (v0 : Option Nat) (v1 : Int32) (v2 : Int32) (v3 : Int32) : Option (Int32 × mm_M) :=
  (f_X10_within M v2 1 499).bind fun x15 =>
  if x15 = 0 then f_X10_test_32 M else f_X10_test_21 M v0 v1 v2 v3
set_option maxRecDepth 20000 in
theorem w_X10_test_10 {g : mm_c} (C : mm_ok g cX10_test "LessonCardsModel" (some .int) "test" 5 2 49 0 0) {M : mm_M} {v0 : Option Nat} {v1 : Int32} {v2 : Int32} {v3 : Int32} {res : Int32 × mm_M} (hf : f_X10_test_10 M v0 v1 v2 v3 = some res) (ko : (fun z => mm_q g 0 0 (some (mm_i z.1)) z.2) res) : mm_X g 0 0 M 10 [(0, mm_r v0), (1, mm_i v1), (2, mm_i v2), (3, mm_i v3)] [] := by
  unfold f_X10_test_10 at hf
  refine xr_iload_n 11 2 C dX10_test_10 rfl rfl rfl ?_
  refine xr_iconst 12 C (v := 1) dX10_test_11 (by decide) rfl ?_
  refine xr_sipush 15 C (v := 499) dX10_test_12 (by decide) rfl ?_
  obtain ⟨x15, h15, hf⟩ := mm_bd_e hf
  refine xr_callS 18 C [mm_i v2, mm_i 1, mm_i 499] cm_X10_123 (fun l G cy => c_X10_within l G cy h15) rfl rfl ⟨⟨Nat.le_of_ble_eq_true rfl, Nat.le_of_ble_eq_true rfl⟩, (Nat.le_of_ble_eq_true rfl), (Nat.le_of_ble_eq_true rfl)⟩ (Nat.le_of_ble_eq_true rfl) dX10_test_15 rfl ?_
  refine xr_if_eq 32 21 C dX10_test_18 (by decide) rfl (fun hc => ?_) (fun hc => ?_)
  · replace hf := (if_pos hc).symm.trans hf
    refine xr_sub [] (lv2 := []) rfl ?_
    exact w_X10_test_32 C hf ko
  · replace hf := (if_neg hc).symm.trans hf
    exact w_X10_test_21 C hf ko
noncomputable def f_X10_test_0 (M : mm_M) (v0 : Option Nat) (v1 : Int32) (v2 : Int32) (v3 : Int32) : Option (Int32 × mm_M) :=
  (f_X10_within M v1 2 8).bind fun x4 =>
  if x4 = 0 then f_X10_test_32 M else f_X10_test_10 M v0 v1 v2 v3
set_option maxRecDepth 20000 in
theorem w_X10_test_0 {g : mm_c} (C : mm_ok g cX10_test "LessonCardsModel" (some .int) "test" 5 2 49 0 0) {M : mm_M} {v0 : Option Nat} {v1 : Int32} {v2 : Int32} {v3 : Int32} {res : Int32 × mm_M} (hf : f_X10_test_0 M v0 v1 v2 v3 = some res) (ko : (fun z => mm_q g 0 0 (some (mm_i z.1)) z.2) res) : mm_X g 0 0 M 0 [(0, mm_r v0), (1, mm_i v1), (2, mm_i v2), (3, mm_i v3)] [] := by
  unfold f_X10_test_0 at hf
  refine xr_iload_n 1 1 C dX10_test_0 rfl rfl rfl ?_
  refine xr_iconst 2 C (v := 2) dX10_test_1 (by decide) rfl ?_
  refine xr_bipush 4 C (v := 8) dX10_test_2 (by decide) rfl ?_
  obtain ⟨x4, h4, hf⟩ := mm_bd_e hf
  refine xr_callS 7 C [mm_i v1, mm_i 2, mm_i 8] cm_X10_123 (fun l G cy => c_X10_within l G cy h4) rfl rfl ⟨⟨Nat.le_of_ble_eq_true rfl, Nat.le_of_ble_eq_true rfl⟩, (Nat.le_of_ble_eq_true rfl), (Nat.le_of_ble_eq_true rfl)⟩ (Nat.le_of_ble_eq_true rfl) dX10_test_4 rfl ?_
  refine xr_if_eq 32 10 C dX10_test_7 (by decide) rfl (fun hc => ?_) (fun hc => ?_)
  · replace hf := (if_pos hc).symm.trans hf
    refine xr_sub [] (lv2 := []) rfl ?_
    exact w_X10_test_32 C hf ko
  · replace hf := (if_neg hc).symm.trans hf
    exact w_X10_test_10 C hf ko
noncomputable def f_X10_test (M : mm_M) (v0 : Option Nat) (v1 : Int32) (v2 : Int32) (v3 : Int32) : Option (Int32 × mm_M) := f_X10_test_0 M v0 v1 v2 v3
theorem c_X10_test (l : Launch) (G : va_G) (cy : Nat → ClassId) {M : mm_M} {v0 : Option Nat} {v1 : Int32} {v2 : Int32} {v3 : Int32} {r : Int32} {M1 : mm_M} (hf : f_X10_test M v0 v1 v2 v3 = some (r, M1)) : mm_Met l yX10_test cX10_test 5 (some .int) 2 49 0 0 G cy [mm_r v0, mm_i v1, mm_i v2, mm_i v3] M (some (mm_i r)) M1 :=
  mm_enter (by decide) (Nat.le_of_ble_eq_true rfl) (fun p e R s m args below meth c Q C hq => xr_sub [0, 1, 2, 3] (lv2 := [(0, mm_r v0), (1, mm_i v1), (2, mm_i v2), (3, mm_i v3)]) rfl (w_X10_test_0 C hf hq))
def h_X10_told_123 (g : mm_c) (M : mm_M) (v0 : Option Nat) (v1 : Int32) (v2 : Int32) (v5 : Int32) : (Int64 × Int64) → Prop := fun x => mm_X g 0 0 M 123 [(0, mm_r v0), (1, mm_i v1), (2, mm_i v2), (3, mm_j x.1), (5, mm_i v5), (6, mm_j x.2)] []
def h_X10_told_161 (g : mm_c) (v0 : Option Nat) (v3 : Int64) : (mm_M × Int64 × Int64 × Int32) → Prop := fun x => mm_X g 0 0 x.1 161 [(0, mm_r v0), (3, mm_j v3), (5, mm_j x.2.1), (7, mm_j x.2.2.1), (9, mm_i x.2.2.2)] []
def h_X10_told_40 (g : mm_c) (v0 : Option Nat) (v1 : Int32) (v2 : Int32) : (mm_M × Int64 × Int32) → Prop := fun x => mm_X g 0 0 x.1 40 [(0, mm_r v0), (1, mm_i v1), (2, mm_i v2), (3, mm_j x.2.1), (5, mm_i x.2.2)] []
noncomputable def f_X10_told_7 (M : mm_M) : Option (Int32 × mm_M) :=
  some ((-4), M)
set_option maxRecDepth 20000 in
theorem w_X10_told_7 {g : mm_c} (C : mm_ok g cX10_told "LessonCardsModel" (some .int) "told" 10 2 49 0 0) {M : mm_M} {res : Int32 × mm_M} (hf : f_X10_told_7 M = some res) (ko : (fun z => mm_q g 0 0 (some (mm_i z.1)) z.2) res) : mm_X g 0 0 M 7 [] [] := by
  unfold f_X10_told_7 at hf
  refine xr_bipush 9 C (v := (-4)) dX10_told_7 (by decide) rfl ?_
  obtain rfl := Option.some.inj hf
  exact xr_iret C ko ⟨(Nat.le_of_ble_eq_true rfl), (Nat.le_of_ble_eq_true rfl)⟩ dX10_told_9
noncomputable def f_X10_told_33 (M : mm_M) : Option (Int32 × mm_M) :=
  some ((-1), M)
set_option maxRecDepth 20000 in
theorem w_X10_told_33 {g : mm_c} (C : mm_ok g cX10_told "LessonCardsModel" (some .int) "told" 10 2 49 0 0) {M : mm_M} {res : Int32 × mm_M} (hf : f_X10_told_33 M = some res) (ko : (fun z => mm_q g 0 0 (some (mm_i z.1)) z.2) res) : mm_X g 0 0 M 33 [] [] := by
  unfold f_X10_told_33 at hf
  refine xr_iconst 34 C (v := (-1)) dX10_told_33 (by decide) rfl ?_
  obtain rfl := Option.some.inj hf
  exact xr_iret C ko ⟨(Nat.le_of_ble_eq_true rfl), (Nat.le_of_ble_eq_true rfl)⟩ dX10_told_34
noncomputable def f_X10_told_130 (M : mm_M) (v0 : Option Nat) (v1 : Int32) (v2 : Int32) (v3 : Int64) (v5 : Int32) (v6 : Int64) : Option ((Int64 × Int64) ⊕ ((mm_M × Int64 × Int32) ⊕ (Int32 × mm_M))) :=
  (mm_mL v3 v6).bind fun x133 =>
  some (.inl (v6, x133))
set_option maxRecDepth 20000 in
theorem w_X10_told_130 {g : mm_c} (C : mm_ok g cX10_told "LessonCardsModel" (some .int) "told" 10 2 49 0 0) {M : mm_M} {v0 : Option Nat} {v1 : Int32} {v2 : Int32} {v3 : Int64} {v5 : Int32} {v6 : Int64} {res : (Int64 × Int64) ⊕ ((mm_M × Int64 × Int32) ⊕ (Int32 × mm_M))} (hf : f_X10_told_130 M v0 v1 v2 v3 v5 v6 = some res) (ko : (mm_o (h_X10_told_123 g M v0 v1 v2 v5) (mm_o (h_X10_told_40 g v0 v1 v2) (fun z => mm_q g 0 0 (some (mm_i z.1)) z.2))) res) : mm_X g 0 0 M 130 [(0, mm_r v0), (1, mm_i v1), (2, mm_i v2), (3, mm_j v3), (5, mm_i v5), (6, mm_j v6)] [] := by
  unfold f_X10_told_130 at hf
  refine xr_lload_n 131 3 C dX10_told_130 rfl rfl rfl ?_
  refine xr_lload 133 5 C dX10_told_131 rfl rfl ?_
  obtain ⟨x133, h133, hf⟩ := mm_bd_e hf
  refine xr_lremv 134 C h133 dX10_told_133 rfl ?_
  refine xr_lstore 136 C dX10_told_134 (by decide) rfl [(8, mm_j x133), (0, mm_r v0), (1, mm_i v1), (2, mm_i v2), (3, mm_j v3), (5, mm_i v5), (6, mm_j v6)] rfl ?_
  refine xr_lload 138 6 C dX10_told_136 rfl rfl ?_
  refine xr_lstore_n 139 C dX10_told_138 rfl (by decide) rfl [(3, mm_j v6), (8, mm_j x133), (0, mm_r v0), (1, mm_i v1), (2, mm_i v2), (5, mm_i v5), (6, mm_j v6)] rfl ?_
  refine xr_lload 141 1 C dX10_told_139 rfl rfl ?_
  refine xr_lstore 143 C dX10_told_141 (by decide) rfl [(6, mm_j x133), (3, mm_j v6), (8, mm_j x133), (0, mm_r v0), (1, mm_i v1), (2, mm_i v2), (5, mm_i v5)] rfl ?_
  refine xr_goto 123 C dX10_told_143 (by decide) ?_
  refine xr_sub [3, 4, 5, 1, 6, 0] (lv2 := [(0, mm_r v0), (1, mm_i v1), (2, mm_i v2), (3, mm_j v6), (5, mm_i v5), (6, mm_j x133)]) rfl ?_
  obtain rfl := Option.some.inj hf
  exact ko
noncomputable def f_X10_told_146 (M : mm_M) (v0 : Option Nat) (v1 : Int32) (v2 : Int32) (v3 : Int64) (v5 : Int32) : Option ((mm_M × Int64 × Int32) ⊕ (Int32 × mm_M)) :=
  some (.inl (M, v3, (v5 + 1)))
set_option maxRecDepth 20000 in
theorem w_X10_told_146 {g : mm_c} (C : mm_ok g cX10_told "LessonCardsModel" (some .int) "told" 10 2 49 0 0) {M : mm_M} {v0 : Option Nat} {v1 : Int32} {v2 : Int32} {v3 : Int64} {v5 : Int32} {res : (mm_M × Int64 × Int32) ⊕ (Int32 × mm_M)} (hf : f_X10_told_146 M v0 v1 v2 v3 v5 = some res) (ko : (mm_o (h_X10_told_40 g v0 v1 v2) (fun z => mm_q g 0 0 (some (mm_i z.1)) z.2)) res) : mm_X g 0 0 M 146 [(0, mm_r v0), (1, mm_i v1), (2, mm_i v2), (3, mm_j v3), (5, mm_i v5)] [] := by
  unfold f_X10_told_146 at hf
  refine xr_iinc 149 4 C dX10_told_146 rfl (by decide) (v := 1) (by decide) rfl [(5, mm_i (v5 + 1)), (0, mm_r v0), (1, mm_i v1), (2, mm_i v2), (3, mm_j v3)] rfl ?_
  refine xr_goto 40 C dX10_told_149 (by decide) ?_
  refine xr_sub [1, 2, 3, 4, 0] (lv2 := [(0, mm_r v0), (1, mm_i v1), (2, mm_i v2), (3, mm_j v3), (5, mm_i (v5 + 1))]) rfl ?_
  obtain rfl := Option.some.inj hf
  exact ko
noncomputable def f_X10_told_123 (M : mm_M) (v0 : Option Nat) (v1 : Int32) (v2 : Int32) (v3 : Int64) (v5 : Int32) (v6 : Int64) : Option ((Int64 × Int64) ⊕ ((mm_M × Int64 × Int32) ⊕ (Int32 × mm_M))) :=
  if (lg_cmp v6 0) = 0 then mm_mp (f_X10_told_146 M v0 v1 v2 v3 v5) else f_X10_told_130 M v0 v1 v2 v3 v5 v6
set_option maxRecDepth 20000 in
theorem w_X10_told_123 {g : mm_c} (C : mm_ok g cX10_told "LessonCardsModel" (some .int) "told" 10 2 49 0 0) {M : mm_M} {v0 : Option Nat} {v1 : Int32} {v2 : Int32} {v3 : Int64} {v5 : Int32} {v6 : Int64} {res : (Int64 × Int64) ⊕ ((mm_M × Int64 × Int32) ⊕ (Int32 × mm_M))} (hf : f_X10_told_123 M v0 v1 v2 v3 v5 v6 = some res) (ko : (mm_o (h_X10_told_123 g M v0 v1 v2 v5) (mm_o (h_X10_told_40 g v0 v1 v2) (fun z => mm_q g 0 0 (some (mm_i z.1)) z.2))) res) : mm_X g 0 0 M 123 [(0, mm_r v0), (1, mm_i v1), (2, mm_i v2), (3, mm_j v3), (5, mm_i v5), (6, mm_j v6)] [] := by
  unfold f_X10_told_123 at hf
  refine xr_lload 125 5 C dX10_told_123 rfl rfl ?_
  refine xr_lconst 126 C (v := 0) dX10_told_125 (by decide) rfl ?_
  refine xr_lcmp 127 C dX10_told_126 rfl ?_
  refine xr_if_eq 146 130 C dX10_told_127 (by decide) rfl (fun hc => ?_) (fun hc => ?_)
  · replace hf := (if_pos hc).symm.trans hf
    refine xr_sub [0, 1, 2, 3, 4] (lv2 := [(0, mm_r v0), (1, mm_i v1), (2, mm_i v2), (3, mm_j v3), (5, mm_i v5)]) rfl ?_
    obtain ⟨z, hf2, rfl⟩ := mm_mp_e hf
    clear hf
    have hf := hf2
    clear hf2
    exact w_X10_told_146 C hf ko
  · replace hf := (if_neg hc).symm.trans hf
    exact w_X10_told_130 C hf ko
noncomputable def f_X10_told_123w (M : mm_M) (v0 : Option Nat) (v1 : Int32) (v2 : Int32) (v3 : Int64) (v5 : Int32) (v6 : Int64) : Option ((mm_M × Int64 × Int32) ⊕ (Int32 × mm_M)) := mm_w (fun x => f_X10_told_123 M v0 v1 v2 x.1 v5 x.2) (v3, v6)
theorem l_X10_told_123 {g : mm_c} (C : mm_ok g cX10_told "LessonCardsModel" (some .int) "told" 10 2 49 0 0) {M : mm_M} {v0 : Option Nat} {v1 : Int32} {v2 : Int32} {v3 : Int64} {v5 : Int32} {v6 : Int64} {res : (mm_M × Int64 × Int32) ⊕ (Int32 × mm_M)} (hf : f_X10_told_123w M v0 v1 v2 v3 v5 v6 = some res) (ko : (mm_o (h_X10_told_40 g v0 v1 v2) (fun z => mm_q g 0 0 (some (mm_i z.1)) z.2)) res) : mm_X g 0 0 M 123 [(0, mm_r v0), (1, mm_i v1), (2, mm_i v2), (3, mm_j v3), (5, mm_i v5), (6, mm_j v6)] [] :=
  mm_w_W (body := fun x => f_X10_told_123 M v0 v1 v2 x.1 v5 x.2) (Wh := h_X10_told_123 g M v0 v1 v2 v5) (ok := (mm_o (h_X10_told_40 g v0 v1 v2) (fun z => mm_q g 0 0 (some (mm_i z.1)) z.2))) (x := (v3, v6)) (fun x r hb ho => w_X10_told_123 C hb ho) hf ko
noncomputable def f_X10_told_111 (M : mm_M) (v0 : Option Nat) (v1 : Int32) (v2 : Int32) (v3 : Int64) (v5 : Int32) (s0 : Option Nat) (s1 : Int32) (s2 : Int64) (s3 : Int32) : Option ((mm_M × Int64 × Int32) ⊕ (Int32 × mm_M)) :=
  (mm_tL M s0 s1 (s2 * (s3.toInt64))).bind fun M113 =>
  (mm_fR M113 v0 11 38).bind fun x115 =>
  (mm_aL M113 x115 v5).bind fun x120 =>
  f_X10_told_123w M113 v0 v1 v2 v3 v5 x120
set_option maxRecDepth 20000 in
theorem w_X10_told_111 {g : mm_c} (C : mm_ok g cX10_told "LessonCardsModel" (some .int) "told" 10 2 49 0 0) {M : mm_M} {v0 : Option Nat} {v1 : Int32} {v2 : Int32} {v3 : Int64} {v5 : Int32} {s0 : Option Nat} {s1 : Int32} {s2 : Int64} {s3 : Int32} {res : (mm_M × Int64 × Int32) ⊕ (Int32 × mm_M)} (hf : f_X10_told_111 M v0 v1 v2 v3 v5 s0 s1 s2 s3 = some res) (ko : (mm_o (h_X10_told_40 g v0 v1 v2) (fun z => mm_q g 0 0 (some (mm_i z.1)) z.2)) res) : mm_X g 0 0 M 111 [(0, mm_r v0), (1, mm_i v1), (2, mm_i v2), (3, mm_j v3), (5, mm_i v5)] [mm_i s3, mm_j s2, mm_i s1, mm_r s0] := by
  unfold f_X10_told_111 at hf
  refine xr_i2l 112 C dX10_told_111 rfl ?_
  refine xr_lmul 113 C dX10_told_112 rfl ?_
  obtain ⟨M113, h113, hf⟩ := mm_bd_e hf
  refine xr_astL 114 C h113 dX10_told_113 rfl ?_
  refine xr_aload_n 115 0 C dX10_told_114 rfl rfl rfl ?_
  obtain ⟨x115, h115, hf⟩ := mm_bd_e hf
  refine xr_getR 118 C cf_X10_99 rfl h115 dX10_told_115 rfl ?_
  refine xr_iload 120 4 C dX10_told_118 rfl rfl ?_
  obtain ⟨x120, h120, hf⟩ := mm_bd_e hf
  refine xr_aldL 121 C h120 dX10_told_120 rfl ?_
  refine xr_lstore 123 C dX10_told_121 (by decide) rfl [(6, mm_j x120), (0, mm_r v0), (1, mm_i v1), (2, mm_i v2), (3, mm_j v3), (5, mm_i v5)] rfl ?_
  refine xr_sub [1, 2, 3, 4, 5, 0] (lv2 := [(0, mm_r v0), (1, mm_i v1), (2, mm_i v2), (3, mm_j v3), (5, mm_i v5), (6, mm_j x120)]) rfl ?_
  exact l_X10_told_123 C hf ko
noncomputable def f_X10_told_73 (M : mm_M) (v0 : Option Nat) (v1 : Int32) (v2 : Int32) (v3 : Int64) (v5 : Int32) (s0 : Option Nat) (s1 : Int32) (s2 : Int64) : Option ((mm_M × Int64 × Int32) ⊕ (Int32 × mm_M)) :=
  (mm_fI M v0 11 40).bind fun x77 =>
  f_X10_told_111 M v0 v1 v2 v3 v5 s0 s1 s2 (1000 - x77)
set_option maxRecDepth 20000 in
theorem w_X10_told_73 {g : mm_c} (C : mm_ok g cX10_told "LessonCardsModel" (some .int) "told" 10 2 49 0 0) {M : mm_M} {v0 : Option Nat} {v1 : Int32} {v2 : Int32} {v3 : Int64} {v5 : Int32} {s0 : Option Nat} {s1 : Int32} {s2 : Int64} {res : (mm_M × Int64 × Int32) ⊕ (Int32 × mm_M)} (hf : f_X10_told_73 M v0 v1 v2 v3 v5 s0 s1 s2 = some res) (ko : (mm_o (h_X10_told_40 g v0 v1 v2) (fun z => mm_q g 0 0 (some (mm_i z.1)) z.2)) res) : mm_X g 0 0 M 73 [(0, mm_r v0), (1, mm_i v1), (2, mm_i v2), (3, mm_j v3), (5, mm_i v5)] [mm_j s2, mm_i s1, mm_r s0] := by
  unfold f_X10_told_73 at hf
  refine xr_sipush 76 C (v := 1000) dX10_told_73 (by decide) rfl ?_
  refine xr_aload_n 77 0 C dX10_told_76 rfl rfl rfl ?_
  obtain ⟨x77, h77, hf⟩ := mm_bd_e hf
  refine xr_getI 80 C cf_X10_242 rfl h77 dX10_told_77 rfl ?_
  refine xr_isub 81 C dX10_told_80 rfl ?_
  refine xr_goto 111 C dX10_told_81 (by decide) ?_
  exact w_X10_told_111 C hf ko
noncomputable def f_X10_told_84 (M : mm_M) (v0 : Option Nat) (v1 : Int32) (v2 : Int32) (v3 : Int64) (v5 : Int32) (s0 : Option Nat) (s1 : Int32) (s2 : Int64) : Option ((mm_M × Int64 × Int32) ⊕ (Int32 × mm_M)) :=
  (mm_fI M v0 11 40).bind fun x85 =>
  f_X10_told_111 M v0 v1 v2 v3 v5 s0 s1 s2 x85
set_option maxRecDepth 20000 in
theorem w_X10_told_84 {g : mm_c} (C : mm_ok g cX10_told "LessonCardsModel" (some .int) "told" 10 2 49 0 0) {M : mm_M} {v0 : Option Nat} {v1 : Int32} {v2 : Int32} {v3 : Int64} {v5 : Int32} {s0 : Option Nat} {s1 : Int32} {s2 : Int64} {res : (mm_M × Int64 × Int32) ⊕ (Int32 × mm_M)} (hf : f_X10_told_84 M v0 v1 v2 v3 v5 s0 s1 s2 = some res) (ko : (mm_o (h_X10_told_40 g v0 v1 v2) (fun z => mm_q g 0 0 (some (mm_i z.1)) z.2)) res) : mm_X g 0 0 M 84 [(0, mm_r v0), (1, mm_i v1), (2, mm_i v2), (3, mm_j v3), (5, mm_i v5)] [mm_j s2, mm_i s1, mm_r s0] := by
  unfold f_X10_told_84 at hf
  refine xr_aload_n 85 0 C dX10_told_84 rfl rfl rfl ?_
  obtain ⟨x85, h85, hf⟩ := mm_bd_e hf
  refine xr_getI 88 C cf_X10_242 rfl h85 dX10_told_85 rfl ?_
  refine xr_goto 111 C dX10_told_88 (by decide) ?_
  exact w_X10_told_111 C hf ko
noncomputable def f_X10_told_68 (M : mm_M) (v0 : Option Nat) (v1 : Int32) (v2 : Int32) (v3 : Int64) (v5 : Int32) (s0 : Option Nat) (s1 : Int32) (s2 : Int64) : Option ((mm_M × Int64 × Int32) ⊕ (Int32 × mm_M)) :=
  if v2 = 1 then f_X10_told_73 M v0 v1 v2 v3 v5 s0 s1 s2 else f_X10_told_84 M v0 v1 v2 v3 v5 s0 s1 s2
set_option maxRecDepth 20000 in
theorem w_X10_told_68 {g : mm_c} (C : mm_ok g cX10_told "LessonCardsModel" (some .int) "told" 10 2 49 0 0) {M : mm_M} {v0 : Option Nat} {v1 : Int32} {v2 : Int32} {v3 : Int64} {v5 : Int32} {s0 : Option Nat} {s1 : Int32} {s2 : Int64} {res : (mm_M × Int64 × Int32) ⊕ (Int32 × mm_M)} (hf : f_X10_told_68 M v0 v1 v2 v3 v5 s0 s1 s2 = some res) (ko : (mm_o (h_X10_told_40 g v0 v1 v2) (fun z => mm_q g 0 0 (some (mm_i z.1)) z.2)) res) : mm_X g 0 0 M 68 [(0, mm_r v0), (1, mm_i v1), (2, mm_i v2), (3, mm_j v3), (5, mm_i v5)] [mm_j s2, mm_i s1, mm_r s0] := by
  unfold f_X10_told_68 at hf
  refine xr_iload_n 69 2 C dX10_told_68 rfl rfl rfl ?_
  refine xr_iconst 70 C (v := 1) dX10_told_69 (by decide) rfl ?_
  refine xr_icmp_ne 84 73 C dX10_told_70 (by decide) rfl (fun hc => ?_) (fun hc => ?_)
  · replace hf := (if_neg hc).symm.trans hf
    exact w_X10_told_84 C hf ko
  · replace hf := (if_pos hc).symm.trans hf
    exact w_X10_told_73 C hf ko
noncomputable def f_X10_told_96 (M : mm_M) (v0 : Option Nat) (v1 : Int32) (v2 : Int32) (v3 : Int64) (v5 : Int32) (s0 : Option Nat) (s1 : Int32) (s2 : Int64) : Option ((mm_M × Int64 × Int32) ⊕ (Int32 × mm_M)) :=
  (mm_fI M v0 11 41).bind fun x97 =>
  f_X10_told_111 M v0 v1 v2 v3 v5 s0 s1 s2 x97
set_option maxRecDepth 20000 in
theorem w_X10_told_96 {g : mm_c} (C : mm_ok g cX10_told "LessonCardsModel" (some .int) "told" 10 2 49 0 0) {M : mm_M} {v0 : Option Nat} {v1 : Int32} {v2 : Int32} {v3 : Int64} {v5 : Int32} {s0 : Option Nat} {s1 : Int32} {s2 : Int64} {res : (mm_M × Int64 × Int32) ⊕ (Int32 × mm_M)} (hf : f_X10_told_96 M v0 v1 v2 v3 v5 s0 s1 s2 = some res) (ko : (mm_o (h_X10_told_40 g v0 v1 v2) (fun z => mm_q g 0 0 (some (mm_i z.1)) z.2)) res) : mm_X g 0 0 M 96 [(0, mm_r v0), (1, mm_i v1), (2, mm_i v2), (3, mm_j v3), (5, mm_i v5)] [mm_j s2, mm_i s1, mm_r s0] := by
  unfold f_X10_told_96 at hf
  refine xr_aload_n 97 0 C dX10_told_96 rfl rfl rfl ?_
  obtain ⟨x97, h97, hf⟩ := mm_bd_e hf
  refine xr_getI 100 C cf_X10_245 rfl h97 dX10_told_97 rfl ?_
  refine xr_goto 111 C dX10_told_100 (by decide) ?_
  exact w_X10_told_111 C hf ko
noncomputable def f_X10_told_103 (M : mm_M) (v0 : Option Nat) (v1 : Int32) (v2 : Int32) (v3 : Int64) (v5 : Int32) (s0 : Option Nat) (s1 : Int32) (s2 : Int64) : Option ((mm_M × Int64 × Int32) ⊕ (Int32 × mm_M)) :=
  (mm_fI M v0 11 41).bind fun x107 =>
  f_X10_told_111 M v0 v1 v2 v3 v5 s0 s1 s2 (1000 - x107)
set_option maxRecDepth 20000 in
theorem w_X10_told_103 {g : mm_c} (C : mm_ok g cX10_told "LessonCardsModel" (some .int) "told" 10 2 49 0 0) {M : mm_M} {v0 : Option Nat} {v1 : Int32} {v2 : Int32} {v3 : Int64} {v5 : Int32} {s0 : Option Nat} {s1 : Int32} {s2 : Int64} {res : (mm_M × Int64 × Int32) ⊕ (Int32 × mm_M)} (hf : f_X10_told_103 M v0 v1 v2 v3 v5 s0 s1 s2 = some res) (ko : (mm_o (h_X10_told_40 g v0 v1 v2) (fun z => mm_q g 0 0 (some (mm_i z.1)) z.2)) res) : mm_X g 0 0 M 103 [(0, mm_r v0), (1, mm_i v1), (2, mm_i v2), (3, mm_j v3), (5, mm_i v5)] [mm_j s2, mm_i s1, mm_r s0] := by
  unfold f_X10_told_103 at hf
  refine xr_sipush 106 C (v := 1000) dX10_told_103 (by decide) rfl ?_
  refine xr_aload_n 107 0 C dX10_told_106 rfl rfl rfl ?_
  obtain ⟨x107, h107, hf⟩ := mm_bd_e hf
  refine xr_getI 110 C cf_X10_245 rfl h107 dX10_told_107 rfl ?_
  refine xr_isub 111 C dX10_told_110 rfl ?_
  exact w_X10_told_111 C hf ko
noncomputable def f_X10_told_91 (M : mm_M) (v0 : Option Nat) (v1 : Int32) (v2 : Int32) (v3 : Int64) (v5 : Int32) (s0 : Option Nat) (s1 : Int32) (s2 : Int64) : Option ((mm_M × Int64 × Int32) ⊕ (Int32 × mm_M)) :=
  if v2 = 1 then f_X10_told_96 M v0 v1 v2 v3 v5 s0 s1 s2 else f_X10_told_103 M v0 v1 v2 v3 v5 s0 s1 s2
set_option maxRecDepth 20000 in
theorem w_X10_told_91 {g : mm_c} (C : mm_ok g cX10_told "LessonCardsModel" (some .int) "told" 10 2 49 0 0) {M : mm_M} {v0 : Option Nat} {v1 : Int32} {v2 : Int32} {v3 : Int64} {v5 : Int32} {s0 : Option Nat} {s1 : Int32} {s2 : Int64} {res : (mm_M × Int64 × Int32) ⊕ (Int32 × mm_M)} (hf : f_X10_told_91 M v0 v1 v2 v3 v5 s0 s1 s2 = some res) (ko : (mm_o (h_X10_told_40 g v0 v1 v2) (fun z => mm_q g 0 0 (some (mm_i z.1)) z.2)) res) : mm_X g 0 0 M 91 [(0, mm_r v0), (1, mm_i v1), (2, mm_i v2), (3, mm_j v3), (5, mm_i v5)] [mm_j s2, mm_i s1, mm_r s0] := by
  unfold f_X10_told_91 at hf
  refine xr_iload_n 92 2 C dX10_told_91 rfl rfl rfl ?_
  refine xr_iconst 93 C (v := 1) dX10_told_92 (by decide) rfl ?_
  refine xr_icmp_ne 103 96 C dX10_told_93 (by decide) rfl (fun hc => ?_) (fun hc => ?_)
  · replace hf := (if_neg hc).symm.trans hf
    exact w_X10_told_103 C hf ko
  · replace hf := (if_pos hc).symm.trans hf
    exact w_X10_told_96 C hf ko
noncomputable def f_X10_told_49 (M : mm_M) (v0 : Option Nat) (v1 : Int32) (v2 : Int32) (v3 : Int64) (v5 : Int32) : Option ((mm_M × Int64 × Int32) ⊕ (Int32 × mm_M)) :=
  (mm_fR M v0 11 38).bind fun x50 =>
  (mm_fR M v0 11 38).bind fun x56 =>
  (mm_aL M x56 v5).bind fun x61 =>
  if v5 < v1 then f_X10_told_91 M v0 v1 v2 v3 v5 x50 v5 x61 else f_X10_told_68 M v0 v1 v2 v3 v5 x50 v5 x61
set_option maxRecDepth 20000 in
theorem w_X10_told_49 {g : mm_c} (C : mm_ok g cX10_told "LessonCardsModel" (some .int) "told" 10 2 49 0 0) {M : mm_M} {v0 : Option Nat} {v1 : Int32} {v2 : Int32} {v3 : Int64} {v5 : Int32} {res : (mm_M × Int64 × Int32) ⊕ (Int32 × mm_M)} (hf : f_X10_told_49 M v0 v1 v2 v3 v5 = some res) (ko : (mm_o (h_X10_told_40 g v0 v1 v2) (fun z => mm_q g 0 0 (some (mm_i z.1)) z.2)) res) : mm_X g 0 0 M 49 [(0, mm_r v0), (1, mm_i v1), (2, mm_i v2), (3, mm_j v3), (5, mm_i v5)] [] := by
  unfold f_X10_told_49 at hf
  refine xr_aload_n 50 0 C dX10_told_49 rfl rfl rfl ?_
  obtain ⟨x50, h50, hf⟩ := mm_bd_e hf
  refine xr_getR 53 C cf_X10_99 rfl h50 dX10_told_50 rfl ?_
  refine xr_iload 55 4 C dX10_told_53 rfl rfl ?_
  refine xr_aload_n 56 0 C dX10_told_55 rfl rfl rfl ?_
  obtain ⟨x56, h56, hf⟩ := mm_bd_e hf
  refine xr_getR 59 C cf_X10_99 rfl h56 dX10_told_56 rfl ?_
  refine xr_iload 61 4 C dX10_told_59 rfl rfl ?_
  obtain ⟨x61, h61, hf⟩ := mm_bd_e hf
  refine xr_aldL 62 C h61 dX10_told_61 rfl ?_
  refine xr_iload 64 4 C dX10_told_62 rfl rfl ?_
  refine xr_iload_n 65 1 C dX10_told_64 rfl rfl rfl ?_
  refine xr_icmp_lt 91 68 C dX10_told_65 (by decide) rfl (fun hc => ?_) (fun hc => ?_)
  · replace hf := (if_pos hc).symm.trans hf
    exact w_X10_told_91 C hf ko
  · replace hf := (if_neg hc).symm.trans hf
    exact w_X10_told_68 C hf ko
noncomputable def f_X10_told_211 (M : mm_M) (v0 : Option Nat) (v3 : Int64) (v7 : Int64) (v9 : Int32) (s0 : Int64) : Option ((mm_M × Int64 × Int64 × Int32) ⊕ (Int32 × mm_M)) :=
  (mm_fR M v0 11 38).bind fun x216 =>
  (mm_aL M x216 v9).bind fun x221 =>
  some (.inl (M, s0, (v7 + x221), (v9 + 1)))
set_option maxRecDepth 20000 in
theorem w_X10_told_211 {g : mm_c} (C : mm_ok g cX10_told "LessonCardsModel" (some .int) "told" 10 2 49 0 0) {M : mm_M} {v0 : Option Nat} {v3 : Int64} {v7 : Int64} {v9 : Int32} {s0 : Int64} {res : (mm_M × Int64 × Int64 × Int32) ⊕ (Int32 × mm_M)} (hf : f_X10_told_211 M v0 v3 v7 v9 s0 = some res) (ko : (mm_o (h_X10_told_161 g v0 v3) (fun z => mm_q g 0 0 (some (mm_i z.1)) z.2)) res) : mm_X g 0 0 M 211 [(0, mm_r v0), (3, mm_j v3), (7, mm_j v7), (9, mm_i v9)] [mm_j s0] := by
  unfold f_X10_told_211 at hf
  refine xr_lstore 213 C dX10_told_211 (by decide) rfl [(5, mm_j s0), (0, mm_r v0), (3, mm_j v3), (7, mm_j v7), (9, mm_i v9)] rfl ?_
  refine xr_lload 215 3 C dX10_told_213 rfl rfl ?_
  refine xr_aload_n 216 1 C dX10_told_215 rfl rfl rfl ?_
  obtain ⟨x216, h216, hf⟩ := mm_bd_e hf
  refine xr_getR 219 C cf_X10_99 rfl h216 dX10_told_216 rfl ?_
  refine xr_iload 221 4 C dX10_told_219 rfl rfl ?_
  obtain ⟨x221, h221, hf⟩ := mm_bd_e hf
  refine xr_aldL 222 C h221 dX10_told_221 rfl ?_
  refine xr_ladd 223 C dX10_told_222 rfl ?_
  refine xr_lstore 225 C dX10_told_223 (by decide) rfl [(7, mm_j (v7 + x221)), (5, mm_j s0), (0, mm_r v0), (3, mm_j v3), (9, mm_i v9)] rfl ?_
  refine xr_iinc 228 4 C dX10_told_225 rfl (by decide) (v := 1) (by decide) rfl [(9, mm_i (v9 + 1)), (7, mm_j (v7 + x221)), (5, mm_j s0), (0, mm_r v0), (3, mm_j v3)] rfl ?_
  refine xr_goto 161 C dX10_told_228 (by decide) ?_
  refine xr_sub [3, 4, 2, 1, 0] (lv2 := [(0, mm_r v0), (3, mm_j v3), (5, mm_j s0), (7, mm_j (v7 + x221)), (9, mm_i (v9 + 1))]) rfl ?_
  obtain rfl := Option.some.inj hf
  exact ko
noncomputable def f_X10_told_199 (M : mm_M) (v0 : Option Nat) (v3 : Int64) (v7 : Int64) (v9 : Int32) : Option ((mm_M × Int64 × Int64 × Int32) ⊕ (Int32 × mm_M)) :=
  (mm_fR M v0 11 38).bind fun x200 =>
  (mm_aL M x200 v9).bind fun x205 =>
  f_X10_told_211 M v0 v3 v7 v9 x205
set_option maxRecDepth 20000 in
theorem w_X10_told_199 {g : mm_c} (C : mm_ok g cX10_told "LessonCardsModel" (some .int) "told" 10 2 49 0 0) {M : mm_M} {v0 : Option Nat} {v3 : Int64} {v7 : Int64} {v9 : Int32} {res : (mm_M × Int64 × Int64 × Int32) ⊕ (Int32 × mm_M)} (hf : f_X10_told_199 M v0 v3 v7 v9 = some res) (ko : (mm_o (h_X10_told_161 g v0 v3) (fun z => mm_q g 0 0 (some (mm_i z.1)) z.2)) res) : mm_X g 0 0 M 199 [(0, mm_r v0), (3, mm_j v3), (7, mm_j v7), (9, mm_i v9)] [] := by
  unfold f_X10_told_199 at hf
  refine xr_aload_n 200 0 C dX10_told_199 rfl rfl rfl ?_
  obtain ⟨x200, h200, hf⟩ := mm_bd_e hf
  refine xr_getR 203 C cf_X10_99 rfl h200 dX10_told_200 rfl ?_
  refine xr_iload 205 3 C dX10_told_203 rfl rfl ?_
  obtain ⟨x205, h205, hf⟩ := mm_bd_e hf
  refine xr_aldL 206 C h205 dX10_told_205 rfl ?_
  refine xr_goto 211 C dX10_told_206 (by decide) ?_
  exact w_X10_told_211 C hf ko
noncomputable def f_X10_told_209 (M : mm_M) (v0 : Option Nat) (v3 : Int64) (v5 : Int64) (v7 : Int64) (v9 : Int32) : Option ((mm_M × Int64 × Int64 × Int32) ⊕ (Int32 × mm_M)) :=
  f_X10_told_211 M v0 v3 v7 v9 v5
set_option maxRecDepth 20000 in
theorem w_X10_told_209 {g : mm_c} (C : mm_ok g cX10_told "LessonCardsModel" (some .int) "told" 10 2 49 0 0) {M : mm_M} {v0 : Option Nat} {v3 : Int64} {v5 : Int64} {v7 : Int64} {v9 : Int32} {res : (mm_M × Int64 × Int64 × Int32) ⊕ (Int32 × mm_M)} (hf : f_X10_told_209 M v0 v3 v5 v7 v9 = some res) (ko : (mm_o (h_X10_told_161 g v0 v3) (fun z => mm_q g 0 0 (some (mm_i z.1)) z.2)) res) : mm_X g 0 0 M 209 [(0, mm_r v0), (3, mm_j v3), (5, mm_j v5), (7, mm_j v7), (9, mm_i v9)] [] := by
  unfold f_X10_told_209 at hf
  refine xr_lload 211 2 C dX10_told_209 rfl rfl ?_
  refine xr_sub [0, 1, 3, 4] (lv2 := [(0, mm_r v0), (3, mm_j v3), (7, mm_j v7), (9, mm_i v9)]) rfl ?_
  exact w_X10_told_211 C hf ko
noncomputable def f_X10_told_170 (M : mm_M) (v0 : Option Nat) (v3 : Int64) (v5 : Int64) (v7 : Int64) (v9 : Int32) : Option ((mm_M × Int64 × Int64 × Int32) ⊕ (Int32 × mm_M)) :=
  (mm_fR M v0 11 38).bind fun x171 =>
  (mm_fR M v0 11 38).bind fun x177 =>
  (mm_aL M x177 v9).bind fun x182 =>
  (mm_dL x182 v3).bind fun x184 =>
  (mm_tL M x171 v9 x184).bind fun M185 =>
  (mm_fR M185 v0 11 38).bind fun x187 =>
  (mm_aL M185 x187 v9).bind fun x192 =>
  if (lg_cmp x192 v5) ≤ 0 then f_X10_told_209 M185 v0 v3 v5 v7 v9 else f_X10_told_199 M185 v0 v3 v7 v9
set_option maxRecDepth 20000 in
theorem w_X10_told_170 {g : mm_c} (C : mm_ok g cX10_told "LessonCardsModel" (some .int) "told" 10 2 49 0 0) {M : mm_M} {v0 : Option Nat} {v3 : Int64} {v5 : Int64} {v7 : Int64} {v9 : Int32} {res : (mm_M × Int64 × Int64 × Int32) ⊕ (Int32 × mm_M)} (hf : f_X10_told_170 M v0 v3 v5 v7 v9 = some res) (ko : (mm_o (h_X10_told_161 g v0 v3) (fun z => mm_q g 0 0 (some (mm_i z.1)) z.2)) res) : mm_X g 0 0 M 170 [(0, mm_r v0), (3, mm_j v3), (5, mm_j v5), (7, mm_j v7), (9, mm_i v9)] [] := by
  unfold f_X10_told_170 at hf
  refine xr_aload_n 171 0 C dX10_told_170 rfl rfl rfl ?_
  obtain ⟨x171, h171, hf⟩ := mm_bd_e hf
  refine xr_getR 174 C cf_X10_99 rfl h171 dX10_told_171 rfl ?_
  refine xr_iload 176 4 C dX10_told_174 rfl rfl ?_
  refine xr_aload_n 177 0 C dX10_told_176 rfl rfl rfl ?_
  obtain ⟨x177, h177, hf⟩ := mm_bd_e hf
  refine xr_getR 180 C cf_X10_99 rfl h177 dX10_told_177 rfl ?_
  refine xr_iload 182 4 C dX10_told_180 rfl rfl ?_
  obtain ⟨x182, h182, hf⟩ := mm_bd_e hf
  refine xr_aldL 183 C h182 dX10_told_182 rfl ?_
  refine xr_lload_n 184 1 C dX10_told_183 rfl rfl rfl ?_
  obtain ⟨x184, h184, hf⟩ := mm_bd_e hf
  refine xr_ldivv 185 C h184 dX10_told_184 rfl ?_
  obtain ⟨M185, h185, hf⟩ := mm_bd_e hf
  refine xr_astL 186 C h185 dX10_told_185 rfl ?_
  refine xr_aload_n 187 0 C dX10_told_186 rfl rfl rfl ?_
  obtain ⟨x187, h187, hf⟩ := mm_bd_e hf
  refine xr_getR 190 C cf_X10_99 rfl h187 dX10_told_187 rfl ?_
  refine xr_iload 192 4 C dX10_told_190 rfl rfl ?_
  obtain ⟨x192, h192, hf⟩ := mm_bd_e hf
  refine xr_aldL 193 C h192 dX10_told_192 rfl ?_
  refine xr_lload 195 2 C dX10_told_193 rfl rfl ?_
  refine xr_lcmp 196 C dX10_told_195 rfl ?_
  refine xr_if_le 209 199 C dX10_told_196 (by decide) rfl (fun hc => ?_) (fun hc => ?_)
  · replace hf := (if_pos hc).symm.trans hf
    exact w_X10_told_209 C hf ko
  · replace hf := (if_neg hc).symm.trans hf
    refine xr_sub [0, 1, 3, 4] (lv2 := [(0, mm_r v0), (3, mm_j v3), (7, mm_j v7), (9, mm_i v9)]) rfl ?_
    exact w_X10_told_199 C hf ko
noncomputable def f_X10_told_289 (M : mm_M) (s0 : Int32) : Option (Int32 × mm_M) :=
  some (s0, M)
set_option maxRecDepth 20000 in
theorem w_X10_told_289 {g : mm_c} (C : mm_ok g cX10_told "LessonCardsModel" (some .int) "told" 10 2 49 0 0) {M : mm_M} {s0 : Int32} {res : Int32 × mm_M} (hf : f_X10_told_289 M s0 = some res) (ko : (fun z => mm_q g 0 0 (some (mm_i z.1)) z.2) res) : mm_X g 0 0 M 289 [] [mm_i s0] := by
  unfold f_X10_told_289 at hf
  obtain rfl := Option.some.inj hf
  exact xr_iret C ko ⟨(Nat.le_of_ble_eq_true rfl), (Nat.le_of_ble_eq_true rfl)⟩ dX10_told_289
noncomputable def f_X10_told_281 (M : mm_M) : Option (Int32 × mm_M) :=
  f_X10_told_289 M 0
set_option maxRecDepth 20000 in
theorem w_X10_told_281 {g : mm_c} (C : mm_ok g cX10_told "LessonCardsModel" (some .int) "told" 10 2 49 0 0) {M : mm_M} {res : Int32 × mm_M} (hf : f_X10_told_281 M = some res) (ko : (fun z => mm_q g 0 0 (some (mm_i z.1)) z.2) res) : mm_X g 0 0 M 281 [] [] := by
  unfold f_X10_told_281 at hf
  refine xr_iconst 282 C (v := 0) dX10_told_281 (by decide) rfl ?_
  refine xr_goto 289 C dX10_told_282 (by decide) ?_
  exact w_X10_told_289 C hf ko
noncomputable def f_X10_told_285 (M : mm_M) (v0 : Option Nat) : Option (Int32 × mm_M) :=
  (mm_rc M v0 11).bind fun u286 =>
  (f_X10_bestQuestion M v0).bind fun x286 =>
  f_X10_told_289 M x286
set_option maxRecDepth 20000 in
theorem w_X10_told_285 {g : mm_c} (C : mm_ok g cX10_told "LessonCardsModel" (some .int) "told" 10 2 49 0 0) {M : mm_M} {v0 : Option Nat} {res : Int32 × mm_M} (hf : f_X10_told_285 M v0 = some res) (ko : (fun z => mm_q g 0 0 (some (mm_i z.1)) z.2) res) : mm_X g 0 0 M 285 [(0, mm_r v0)] [] := by
  unfold f_X10_told_285 at hf
  refine xr_aload_n 286 0 C dX10_told_285 rfl rfl rfl ?_
  obtain ⟨u286, g286, hf⟩ := mm_bd_e hf
  obtain ⟨x286, h286, hf⟩ := mm_bd_e hf
  refine xr_callV 289 C [] cm_X10_255 (fun l G cy => c_X10_bestQuestion l G cy h286) g286 rfl rfl ⟨⟨Nat.le_of_ble_eq_true rfl, Nat.le_of_ble_eq_true rfl⟩, (Nat.le_of_ble_eq_true rfl), (Nat.le_of_ble_eq_true rfl)⟩ (Nat.le_of_ble_eq_true rfl) dX10_told_286 rfl ?_
  refine xr_sub [] (lv2 := []) rfl ?_
  exact w_X10_told_289 C hf ko
noncomputable def f_X10_told_271 (M : mm_M) (v0 : Option Nat) (s0 : Option Nat) (s1 : Int32) : Option (Int32 × mm_M) :=
  (mm_pZ M s0 11 43 s1).bind fun M271 =>
  (mm_fI M271 v0 11 43).bind fun x275 =>
  if x275 = 0 then f_X10_told_285 M271 v0 else f_X10_told_281 M271
set_option maxRecDepth 20000 in
theorem w_X10_told_271 {g : mm_c} (C : mm_ok g cX10_told "LessonCardsModel" (some .int) "told" 10 2 49 0 0) {M : mm_M} {v0 : Option Nat} {s0 : Option Nat} {s1 : Int32} {res : Int32 × mm_M} (hf : f_X10_told_271 M v0 s0 s1 = some res) (ko : (fun z => mm_q g 0 0 (some (mm_i z.1)) z.2) res) : mm_X g 0 0 M 271 [(0, mm_r v0)] [mm_i s1, mm_r s0] := by
  unfold f_X10_told_271 at hf
  obtain ⟨M271, h271, hf⟩ := mm_bd_e hf
  refine xr_putZ 274 C cf_X10_103 (fun h => by cases h) h271 dX10_told_271 rfl ?_
  refine xr_aload_n 275 0 C dX10_told_274 rfl rfl rfl ?_
  obtain ⟨x275, h275, hf⟩ := mm_bd_e hf
  refine xr_getI 278 C cf_X10_103 rfl h275 dX10_told_275 rfl ?_
  refine xr_if_eq 285 281 C dX10_told_278 (by decide) rfl (fun hc => ?_) (fun hc => ?_)
  · replace hf := (if_pos hc).symm.trans hf
    exact w_X10_told_285 C hf ko
  · replace hf := (if_neg hc).symm.trans hf
    refine xr_sub [] (lv2 := []) rfl ?_
    exact w_X10_told_281 C hf ko
noncomputable def f_X10_told_266 (M : mm_M) (v0 : Option Nat) (s0 : Option Nat) : Option (Int32 × mm_M) :=
  f_X10_told_271 M v0 s0 1
set_option maxRecDepth 20000 in
theorem w_X10_told_266 {g : mm_c} (C : mm_ok g cX10_told "LessonCardsModel" (some .int) "told" 10 2 49 0 0) {M : mm_M} {v0 : Option Nat} {s0 : Option Nat} {res : Int32 × mm_M} (hf : f_X10_told_266 M v0 s0 = some res) (ko : (fun z => mm_q g 0 0 (some (mm_i z.1)) z.2) res) : mm_X g 0 0 M 266 [(0, mm_r v0)] [mm_r s0] := by
  unfold f_X10_told_266 at hf
  refine xr_iconst 267 C (v := 1) dX10_told_266 (by decide) rfl ?_
  refine xr_goto 271 C dX10_told_267 (by decide) ?_
  exact w_X10_told_271 C hf ko
noncomputable def f_X10_told_270 (M : mm_M) (v0 : Option Nat) (s0 : Option Nat) : Option (Int32 × mm_M) :=
  f_X10_told_271 M v0 s0 0
set_option maxRecDepth 20000 in
theorem w_X10_told_270 {g : mm_c} (C : mm_ok g cX10_told "LessonCardsModel" (some .int) "told" 10 2 49 0 0) {M : mm_M} {v0 : Option Nat} {s0 : Option Nat} {res : Int32 × mm_M} (hf : f_X10_told_270 M v0 s0 = some res) (ko : (fun z => mm_q g 0 0 (some (mm_i z.1)) z.2) res) : mm_X g 0 0 M 270 [(0, mm_r v0)] [mm_r s0] := by
  unfold f_X10_told_270 at hf
  refine xr_iconst 271 C (v := 0) dX10_told_270 (by decide) rfl ?_
  exact w_X10_told_271 C hf ko
noncomputable def f_X10_told_251 (M : mm_M) (v0 : Option Nat) (v5 : Int64) (v7 : Int64) (s0 : Option Nat) : Option (Int32 × mm_M) :=
  if (lg_cmp v5 (9 * (v7 - v5))) < 0 then f_X10_told_270 M v0 s0 else f_X10_told_266 M v0 s0
set_option maxRecDepth 20000 in
theorem w_X10_told_251 {g : mm_c} (C : mm_ok g cX10_told "LessonCardsModel" (some .int) "told" 10 2 49 0 0) {M : mm_M} {v0 : Option Nat} {v5 : Int64} {v7 : Int64} {s0 : Option Nat} {res : Int32 × mm_M} (hf : f_X10_told_251 M v0 v5 v7 s0 = some res) (ko : (fun z => mm_q g 0 0 (some (mm_i z.1)) z.2) res) : mm_X g 0 0 M 251 [(0, mm_r v0), (5, mm_j v5), (7, mm_j v7)] [mm_r s0] := by
  unfold f_X10_told_251 at hf
  refine xr_lload 253 1 C dX10_told_251 rfl rfl ?_
  refine xr_ldc2 256 C wd_1270 dX10_told_253 rfl ?_
  refine xr_lload 258 2 C dX10_told_256 rfl rfl ?_
  refine xr_lload 260 1 C dX10_told_258 rfl rfl ?_
  refine xr_lsub 261 C dX10_told_260 rfl ?_
  refine xr_lmul 262 C dX10_told_261 rfl ?_
  refine xr_lcmp 263 C dX10_told_262 rfl ?_
  refine xr_if_lt 270 266 C dX10_told_263 (by decide) rfl (fun hc => ?_) (fun hc => ?_)
  · replace hf := (if_pos hc).symm.trans hf
    refine xr_sub [0] (lv2 := [(0, mm_r v0)]) rfl ?_
    exact w_X10_told_270 C hf ko
  · replace hf := (if_neg hc).symm.trans hf
    refine xr_sub [0] (lv2 := [(0, mm_r v0)]) rfl ?_
    exact w_X10_told_266 C hf ko
noncomputable def f_X10_told_231 (M : mm_M) (v0 : Option Nat) (v5 : Int64) (v7 : Int64) : Option (Int32 × mm_M) :=
  (mm_fI M v0 11 42).bind fun x233 =>
  (mm_pI M v0 11 42 (x233 + 1)).bind fun M238 =>
  (mm_fI M238 v0 11 42).bind fun x243 =>
  if x243 = 6 then f_X10_told_266 M238 v0 v0 else f_X10_told_251 M238 v0 v5 v7 v0
set_option maxRecDepth 20000 in
theorem w_X10_told_231 {g : mm_c} (C : mm_ok g cX10_told "LessonCardsModel" (some .int) "told" 10 2 49 0 0) {M : mm_M} {v0 : Option Nat} {v5 : Int64} {v7 : Int64} {res : Int32 × mm_M} (hf : f_X10_told_231 M v0 v5 v7 = some res) (ko : (fun z => mm_q g 0 0 (some (mm_i z.1)) z.2) res) : mm_X g 0 0 M 231 [(0, mm_r v0), (5, mm_j v5), (7, mm_j v7)] [] := by
  unfold f_X10_told_231 at hf
  refine xr_aload_n 232 0 C dX10_told_231 rfl rfl rfl ?_
  refine xr_dup 233 C dX10_told_232 rfl rfl ?_
  obtain ⟨x233, h233, hf⟩ := mm_bd_e hf
  refine xr_getI 236 C cf_X10_252 rfl h233 dX10_told_233 rfl ?_
  refine xr_iconst 237 C (v := 1) dX10_told_236 (by decide) rfl ?_
  refine xr_iadd 238 C dX10_told_237 rfl ?_
  obtain ⟨M238, h238, hf⟩ := mm_bd_e hf
  refine xr_putI 241 C cf_X10_252 (fun h => by cases h) h238 dX10_told_238 rfl ?_
  refine xr_aload_n 242 0 C dX10_told_241 rfl rfl rfl ?_
  refine xr_aload_n 243 0 C dX10_told_242 rfl rfl rfl ?_
  obtain ⟨x243, h243, hf⟩ := mm_bd_e hf
  refine xr_getI 246 C cf_X10_252 rfl h243 dX10_told_243 rfl ?_
  refine xr_bipush 248 C (v := 6) dX10_told_246 (by decide) rfl ?_
  refine xr_icmp_eq 266 251 C dX10_told_248 (by decide) rfl (fun hc => ?_) (fun hc => ?_)
  · replace hf := (if_pos hc).symm.trans hf
    refine xr_sub [0] (lv2 := [(0, mm_r v0)]) rfl ?_
    exact w_X10_told_266 C hf ko
  · replace hf := (if_neg hc).symm.trans hf
    exact w_X10_told_251 C hf ko
noncomputable def f_X10_told_161 (M : mm_M) (v0 : Option Nat) (v3 : Int64) (v5 : Int64) (v7 : Int64) (v9 : Int32) : Option ((mm_M × Int64 × Int64 × Int32) ⊕ (Int32 × mm_M)) :=
  (mm_fI M v0 11 39).bind fun x164 =>
  if x164 ≤ v9 then mm_mp (f_X10_told_231 M v0 v5 v7) else f_X10_told_170 M v0 v3 v5 v7 v9
set_option maxRecDepth 20000 in
theorem w_X10_told_161 {g : mm_c} (C : mm_ok g cX10_told "LessonCardsModel" (some .int) "told" 10 2 49 0 0) {M : mm_M} {v0 : Option Nat} {v3 : Int64} {v5 : Int64} {v7 : Int64} {v9 : Int32} {res : (mm_M × Int64 × Int64 × Int32) ⊕ (Int32 × mm_M)} (hf : f_X10_told_161 M v0 v3 v5 v7 v9 = some res) (ko : (mm_o (h_X10_told_161 g v0 v3) (fun z => mm_q g 0 0 (some (mm_i z.1)) z.2)) res) : mm_X g 0 0 M 161 [(0, mm_r v0), (3, mm_j v3), (5, mm_j v5), (7, mm_j v7), (9, mm_i v9)] [] := by
  unfold f_X10_told_161 at hf
  refine xr_iload 163 4 C dX10_told_161 rfl rfl ?_
  refine xr_aload_n 164 0 C dX10_told_163 rfl rfl rfl ?_
  obtain ⟨x164, h164, hf⟩ := mm_bd_e hf
  refine xr_getI 167 C cf_X10_239 rfl h164 dX10_told_164 rfl ?_
  refine xr_icmp_ge 231 170 C dX10_told_167 (by decide) rfl (fun hc => ?_) (fun hc => ?_)
  · replace hf := (if_pos hc).symm.trans hf
    refine xr_sub [0, 2, 3] (lv2 := [(0, mm_r v0), (5, mm_j v5), (7, mm_j v7)]) rfl ?_
    obtain ⟨z, hf2, rfl⟩ := mm_mp_e hf
    clear hf
    have hf := hf2
    clear hf2
    exact w_X10_told_231 C hf ko
  · replace hf := (if_neg hc).symm.trans hf
    exact w_X10_told_170 C hf ko
noncomputable def f_X10_told_161w (M : mm_M) (v0 : Option Nat) (v3 : Int64) (v5 : Int64) (v7 : Int64) (v9 : Int32) : Option (Int32 × mm_M) := mm_w (fun x => f_X10_told_161 x.1 v0 v3 x.2.1 x.2.2.1 x.2.2.2) (M, v5, v7, v9)
theorem l_X10_told_161 {g : mm_c} (C : mm_ok g cX10_told "LessonCardsModel" (some .int) "told" 10 2 49 0 0) {M : mm_M} {v0 : Option Nat} {v3 : Int64} {v5 : Int64} {v7 : Int64} {v9 : Int32} {res : Int32 × mm_M} (hf : f_X10_told_161w M v0 v3 v5 v7 v9 = some res) (ko : (fun z => mm_q g 0 0 (some (mm_i z.1)) z.2) res) : mm_X g 0 0 M 161 [(0, mm_r v0), (3, mm_j v3), (5, mm_j v5), (7, mm_j v7), (9, mm_i v9)] [] :=
  mm_w_W (body := fun x => f_X10_told_161 x.1 v0 v3 x.2.1 x.2.2.1 x.2.2.2) (Wh := h_X10_told_161 g v0 v3) (ok := (fun z => mm_q g 0 0 (some (mm_i z.1)) z.2)) (x := (M, v5, v7, v9)) (fun x r hb ho => w_X10_told_161 C hb ho) hf ko
noncomputable def f_X10_told_152 (M : mm_M) (v0 : Option Nat) (v3 : Int64) : Option (Int32 × mm_M) :=
  f_X10_told_161w M v0 v3 0 0 0
set_option maxRecDepth 20000 in
theorem w_X10_told_152 {g : mm_c} (C : mm_ok g cX10_told "LessonCardsModel" (some .int) "told" 10 2 49 0 0) {M : mm_M} {v0 : Option Nat} {v3 : Int64} {res : Int32 × mm_M} (hf : f_X10_told_152 M v0 v3 = some res) (ko : (fun z => mm_q g 0 0 (some (mm_i z.1)) z.2) res) : mm_X g 0 0 M 152 [(0, mm_r v0), (3, mm_j v3)] [] := by
  unfold f_X10_told_152 at hf
  refine xr_lconst 153 C (v := 0) dX10_told_152 (by decide) rfl ?_
  refine xr_lstore 155 C dX10_told_153 (by decide) rfl [(5, mm_j 0), (0, mm_r v0), (3, mm_j v3)] rfl ?_
  refine xr_lconst 156 C (v := 0) dX10_told_155 (by decide) rfl ?_
  refine xr_lstore 158 C dX10_told_156 (by decide) rfl [(7, mm_j 0), (5, mm_j 0), (0, mm_r v0), (3, mm_j v3)] rfl ?_
  refine xr_iconst 159 C (v := 0) dX10_told_158 (by decide) rfl ?_
  refine xr_istore 161 C dX10_told_159 (by decide) rfl [(9, mm_i 0), (7, mm_j 0), (5, mm_j 0), (0, mm_r v0), (3, mm_j v3)] rfl ?_
  refine xr_sub [3, 4, 2, 1, 0] (lv2 := [(0, mm_r v0), (3, mm_j v3), (5, mm_j 0), (7, mm_j 0), (9, mm_i 0)]) rfl ?_
  exact l_X10_told_161 C hf ko
noncomputable def f_X10_told_40 (M : mm_M) (v0 : Option Nat) (v1 : Int32) (v2 : Int32) (v3 : Int64) (v5 : Int32) : Option ((mm_M × Int64 × Int32) ⊕ (Int32 × mm_M)) :=
  (mm_fI M v0 11 39).bind fun x43 =>
  if x43 ≤ v5 then mm_mp (f_X10_told_152 M v0 v3) else f_X10_told_49 M v0 v1 v2 v3 v5
set_option maxRecDepth 20000 in
theorem w_X10_told_40 {g : mm_c} (C : mm_ok g cX10_told "LessonCardsModel" (some .int) "told" 10 2 49 0 0) {M : mm_M} {v0 : Option Nat} {v1 : Int32} {v2 : Int32} {v3 : Int64} {v5 : Int32} {res : (mm_M × Int64 × Int32) ⊕ (Int32 × mm_M)} (hf : f_X10_told_40 M v0 v1 v2 v3 v5 = some res) (ko : (mm_o (h_X10_told_40 g v0 v1 v2) (fun z => mm_q g 0 0 (some (mm_i z.1)) z.2)) res) : mm_X g 0 0 M 40 [(0, mm_r v0), (1, mm_i v1), (2, mm_i v2), (3, mm_j v3), (5, mm_i v5)] [] := by
  unfold f_X10_told_40 at hf
  refine xr_iload 42 4 C dX10_told_40 rfl rfl ?_
  refine xr_aload_n 43 0 C dX10_told_42 rfl rfl rfl ?_
  obtain ⟨x43, h43, hf⟩ := mm_bd_e hf
  refine xr_getI 46 C cf_X10_239 rfl h43 dX10_told_43 rfl ?_
  refine xr_icmp_ge 152 49 C dX10_told_46 (by decide) rfl (fun hc => ?_) (fun hc => ?_)
  · replace hf := (if_pos hc).symm.trans hf
    refine xr_sub [0, 3] (lv2 := [(0, mm_r v0), (3, mm_j v3)]) rfl ?_
    obtain ⟨z, hf2, rfl⟩ := mm_mp_e hf
    clear hf
    have hf := hf2
    clear hf2
    exact w_X10_told_152 C hf ko
  · replace hf := (if_neg hc).symm.trans hf
    exact w_X10_told_49 C hf ko
noncomputable def f_X10_told_40w (M : mm_M) (v0 : Option Nat) (v1 : Int32) (v2 : Int32) (v3 : Int64) (v5 : Int32) : Option (Int32 × mm_M) := mm_w (fun x => f_X10_told_40 x.1 v0 v1 v2 x.2.1 x.2.2) (M, v3, v5)
theorem l_X10_told_40 {g : mm_c} (C : mm_ok g cX10_told "LessonCardsModel" (some .int) "told" 10 2 49 0 0) {M : mm_M} {v0 : Option Nat} {v1 : Int32} {v2 : Int32} {v3 : Int64} {v5 : Int32} {res : Int32 × mm_M} (hf : f_X10_told_40w M v0 v1 v2 v3 v5 = some res) (ko : (fun z => mm_q g 0 0 (some (mm_i z.1)) z.2) res) : mm_X g 0 0 M 40 [(0, mm_r v0), (1, mm_i v1), (2, mm_i v2), (3, mm_j v3), (5, mm_i v5)] [] :=
  mm_w_W (body := fun x => f_X10_told_40 x.1 v0 v1 v2 x.2.1 x.2.2) (Wh := h_X10_told_40 g v0 v1 v2) (ok := (fun z => mm_q g 0 0 (some (mm_i z.1)) z.2)) (x := (M, v3, v5)) (fun x r hb ho => w_X10_told_40 C hb ho) hf ko
noncomputable def f_X10_told_35 (M : mm_M) (v0 : Option Nat) (v1 : Int32) (v2 : Int32) : Option (Int32 × mm_M) :=
  f_X10_told_40w M v0 v1 v2 0 0
set_option maxRecDepth 20000 in
theorem w_X10_told_35 {g : mm_c} (C : mm_ok g cX10_told "LessonCardsModel" (some .int) "told" 10 2 49 0 0) {M : mm_M} {v0 : Option Nat} {v1 : Int32} {v2 : Int32} {res : Int32 × mm_M} (hf : f_X10_told_35 M v0 v1 v2 = some res) (ko : (fun z => mm_q g 0 0 (some (mm_i z.1)) z.2) res) : mm_X g 0 0 M 35 [(0, mm_r v0), (1, mm_i v1), (2, mm_i v2)] [] := by
  unfold f_X10_told_35 at hf
  refine xr_lconst 36 C (v := 0) dX10_told_35 (by decide) rfl ?_
  refine xr_lstore_n 37 C dX10_told_36 rfl (by decide) rfl [(3, mm_j 0), (0, mm_r v0), (1, mm_i v1), (2, mm_i v2)] rfl ?_
  refine xr_iconst 38 C (v := 0) dX10_told_37 (by decide) rfl ?_
  refine xr_istore 40 C dX10_told_38 (by decide) rfl [(5, mm_i 0), (3, mm_j 0), (0, mm_r v0), (1, mm_i v1), (2, mm_i v2)] rfl ?_
  refine xr_sub [2, 3, 4, 1, 0] (lv2 := [(0, mm_r v0), (1, mm_i v1), (2, mm_i v2), (3, mm_j 0), (5, mm_i 0)]) rfl ?_
  exact l_X10_told_40 C hf ko
noncomputable def f_X10_told_24 (M : mm_M) (v0 : Option Nat) (v1 : Int32) (v2 : Int32) : Option (Int32 × mm_M) :=
  (f_X10_within M v2 0 1).bind fun x27 =>
  if x27 = 0 then f_X10_told_33 M else f_X10_told_35 M v0 v1 v2
set_option maxRecDepth 20000 in
theorem w_X10_told_24 {g : mm_c} (C : mm_ok g cX10_told "LessonCardsModel" (some .int) "told" 10 2 49 0 0) {M : mm_M} {v0 : Option Nat} {v1 : Int32} {v2 : Int32} {res : Int32 × mm_M} (hf : f_X10_told_24 M v0 v1 v2 = some res) (ko : (fun z => mm_q g 0 0 (some (mm_i z.1)) z.2) res) : mm_X g 0 0 M 24 [(0, mm_r v0), (1, mm_i v1), (2, mm_i v2)] [] := by
  unfold f_X10_told_24 at hf
  refine xr_iload_n 25 2 C dX10_told_24 rfl rfl rfl ?_
  refine xr_iconst 26 C (v := 0) dX10_told_25 (by decide) rfl ?_
  refine xr_iconst 27 C (v := 1) dX10_told_26 (by decide) rfl ?_
  obtain ⟨x27, h27, hf⟩ := mm_bd_e hf
  refine xr_callS 30 C [mm_i v2, mm_i 0, mm_i 1] cm_X10_123 (fun l G cy => c_X10_within l G cy h27) rfl rfl ⟨⟨Nat.le_of_ble_eq_true rfl, Nat.le_of_ble_eq_true rfl⟩, (Nat.le_of_ble_eq_true rfl), (Nat.le_of_ble_eq_true rfl)⟩ (Nat.le_of_ble_eq_true rfl) dX10_told_27 rfl ?_
  refine xr_if_ne 35 33 C dX10_told_30 (by decide) rfl (fun hc => ?_) (fun hc => ?_)
  · replace hf := (if_neg hc).symm.trans hf
    exact w_X10_told_35 C hf ko
  · replace hf := (if_pos hc).symm.trans hf
    refine xr_sub [] (lv2 := []) rfl ?_
    exact w_X10_told_33 C hf ko
noncomputable def f_X10_told_10 (M : mm_M) (v0 : Option Nat) (v1 : Int32) (v2 : Int32) : Option (Int32 × mm_M) :=
  (mm_fI M v0 11 39).bind fun x13 =>
  (f_X10_within M v1 1 (x13 - 1)).bind fun x18 =>
  if x18 = 0 then f_X10_told_33 M else f_X10_told_24 M v0 v1 v2
set_option maxRecDepth 20000 in
theorem w_X10_told_10 {g : mm_c} (C : mm_ok g cX10_told "LessonCardsModel" (some .int) "told" 10 2 49 0 0) {M : mm_M} {v0 : Option Nat} {v1 : Int32} {v2 : Int32} {res : Int32 × mm_M} (hf : f_X10_told_10 M v0 v1 v2 = some res) (ko : (fun z => mm_q g 0 0 (some (mm_i z.1)) z.2) res) : mm_X g 0 0 M 10 [(0, mm_r v0), (1, mm_i v1), (2, mm_i v2)] [] := by
  unfold f_X10_told_10 at hf
  refine xr_iload_n 11 1 C dX10_told_10 rfl rfl rfl ?_
  refine xr_iconst 12 C (v := 1) dX10_told_11 (by decide) rfl ?_
  refine xr_aload_n 13 0 C dX10_told_12 rfl rfl rfl ?_
  obtain ⟨x13, h13, hf⟩ := mm_bd_e hf
  refine xr_getI 16 C cf_X10_239 rfl h13 dX10_told_13 rfl ?_
  refine xr_iconst 17 C (v := 1) dX10_told_16 (by decide) rfl ?_
  refine xr_isub 18 C dX10_told_17 rfl ?_
  obtain ⟨x18, h18, hf⟩ := mm_bd_e hf
  refine xr_callS 21 C [mm_i v1, mm_i 1, mm_i (x13 - 1)] cm_X10_123 (fun l G cy => c_X10_within l G cy h18) rfl rfl ⟨⟨Nat.le_of_ble_eq_true rfl, Nat.le_of_ble_eq_true rfl⟩, (Nat.le_of_ble_eq_true rfl), (Nat.le_of_ble_eq_true rfl)⟩ (Nat.le_of_ble_eq_true rfl) dX10_told_18 rfl ?_
  refine xr_if_eq 33 24 C dX10_told_21 (by decide) rfl (fun hc => ?_) (fun hc => ?_)
  · replace hf := (if_pos hc).symm.trans hf
    refine xr_sub [] (lv2 := []) rfl ?_
    exact w_X10_told_33 C hf ko
  · replace hf := (if_neg hc).symm.trans hf
    exact w_X10_told_24 C hf ko
noncomputable def f_X10_told_0 (M : mm_M) (v0 : Option Nat) (v1 : Int32) (v2 : Int32) : Option (Int32 × mm_M) :=
  (mm_fI M v0 11 43).bind fun x1 =>
  if x1 = 0 then f_X10_told_10 M v0 v1 v2 else f_X10_told_7 M
set_option maxRecDepth 20000 in
theorem w_X10_told_0 {g : mm_c} (C : mm_ok g cX10_told "LessonCardsModel" (some .int) "told" 10 2 49 0 0) {M : mm_M} {v0 : Option Nat} {v1 : Int32} {v2 : Int32} {res : Int32 × mm_M} (hf : f_X10_told_0 M v0 v1 v2 = some res) (ko : (fun z => mm_q g 0 0 (some (mm_i z.1)) z.2) res) : mm_X g 0 0 M 0 [(0, mm_r v0), (1, mm_i v1), (2, mm_i v2)] [] := by
  unfold f_X10_told_0 at hf
  refine xr_aload_n 1 0 C dX10_told_0 rfl rfl rfl ?_
  obtain ⟨x1, h1, hf⟩ := mm_bd_e hf
  refine xr_getI 4 C cf_X10_103 rfl h1 dX10_told_1 rfl ?_
  refine xr_if_eq 10 7 C dX10_told_4 (by decide) rfl (fun hc => ?_) (fun hc => ?_)
  · replace hf := (if_pos hc).symm.trans hf
    exact w_X10_told_10 C hf ko
  · replace hf := (if_neg hc).symm.trans hf
    refine xr_sub [] (lv2 := []) rfl ?_
    exact w_X10_told_7 C hf ko
noncomputable def f_X10_told (M : mm_M) (v0 : Option Nat) (v1 : Int32) (v2 : Int32) : Option (Int32 × mm_M) := f_X10_told_0 M v0 v1 v2
theorem c_X10_told (l : Launch) (G : va_G) (cy : Nat → ClassId) {M : mm_M} {v0 : Option Nat} {v1 : Int32} {v2 : Int32} {r : Int32} {M1 : mm_M} (hf : f_X10_told M v0 v1 v2 = some (r, M1)) : mm_Met l yX10_told cX10_told 10 (some .int) 2 49 0 0 G cy [mm_r v0, mm_i v1, mm_i v2] M (some (mm_i r)) M1 :=
  mm_enter (by decide) (Nat.le_of_ble_eq_true rfl) (fun p e R s m args below meth c Q C hq => xr_sub [0, 1, 2] (lv2 := [(0, mm_r v0), (1, mm_i v1), (2, mm_i v2)]) rfl (w_X10_told_0 C hf hq))
noncomputable def f_X10_weight_24 (M : mm_M) (s0 : Int64) : Option (Int64) :=
  some s0
set_option maxRecDepth 20000 in
theorem w_X10_weight_24 {g : mm_c} (C : mm_ok g cX10_weight "LessonCardsModel" (some .long) "weight" 2 0 0 0 0) {M : mm_M} {s0 : Int64} {res : Int64} (hf : f_X10_weight_24 M s0 = some res) (ko : (fun z => mm_q g 0 0 (some (mm_j z)) M) res) : mm_X g 0 0 M 24 [] [mm_j s0] := by
  unfold f_X10_weight_24 at hf
  obtain rfl := Option.some.inj hf
  exact xr_lret C ko ⟨(Nat.le_of_ble_eq_true rfl), (Nat.le_of_ble_eq_true rfl)⟩ dX10_weight_24
noncomputable def f_X10_weight_12 (M : mm_M) (v0 : Option Nat) (v1 : Int32) : Option (Int64) :=
  (mm_fR M v0 11 38).bind fun x13 =>
  (mm_aL M x13 v1).bind fun x17 =>
  f_X10_weight_24 M x17
set_option maxRecDepth 20000 in
theorem w_X10_weight_12 {g : mm_c} (C : mm_ok g cX10_weight "LessonCardsModel" (some .long) "weight" 2 0 0 0 0) {M : mm_M} {v0 : Option Nat} {v1 : Int32} {res : Int64} (hf : f_X10_weight_12 M v0 v1 = some res) (ko : (fun z => mm_q g 0 0 (some (mm_j z)) M) res) : mm_X g 0 0 M 12 [(0, mm_r v0), (1, mm_i v1)] [] := by
  unfold f_X10_weight_12 at hf
  refine xr_aload_n 13 0 C dX10_weight_12 rfl rfl rfl ?_
  obtain ⟨x13, h13, hf⟩ := mm_bd_e hf
  refine xr_getR 16 C cf_X10_99 rfl h13 dX10_weight_13 rfl ?_
  refine xr_iload_n 17 1 C dX10_weight_16 rfl rfl rfl ?_
  obtain ⟨x17, h17, hf⟩ := mm_bd_e hf
  refine xr_aldL 18 C h17 dX10_weight_17 rfl ?_
  refine xr_goto 24 C dX10_weight_18 (by decide) ?_
  refine xr_sub [] (lv2 := []) rfl ?_
  exact w_X10_weight_24 C hf ko
noncomputable def f_X10_weight_21 (M : mm_M) : Option (Int64) :=
  f_X10_weight_24 M (-1)
set_option maxRecDepth 20000 in
theorem w_X10_weight_21 {g : mm_c} (C : mm_ok g cX10_weight "LessonCardsModel" (some .long) "weight" 2 0 0 0 0) {M : mm_M} {res : Int64} (hf : f_X10_weight_21 M = some res) (ko : (fun z => mm_q g 0 0 (some (mm_j z)) M) res) : mm_X g 0 0 M 21 [] [] := by
  unfold f_X10_weight_21 at hf
  refine xr_ldc2 24 C wd_1275 dX10_weight_21 rfl ?_
  exact w_X10_weight_24 C hf ko
noncomputable def f_X10_weight_4 (M : mm_M) (v0 : Option Nat) (v1 : Int32) : Option (Int64) :=
  (mm_fI M v0 11 39).bind fun x6 =>
  if x6 ≤ v1 then f_X10_weight_21 M else f_X10_weight_12 M v0 v1
set_option maxRecDepth 20000 in
theorem w_X10_weight_4 {g : mm_c} (C : mm_ok g cX10_weight "LessonCardsModel" (some .long) "weight" 2 0 0 0 0) {M : mm_M} {v0 : Option Nat} {v1 : Int32} {res : Int64} (hf : f_X10_weight_4 M v0 v1 = some res) (ko : (fun z => mm_q g 0 0 (some (mm_j z)) M) res) : mm_X g 0 0 M 4 [(0, mm_r v0), (1, mm_i v1)] [] := by
  unfold f_X10_weight_4 at hf
  refine xr_iload_n 5 1 C dX10_weight_4 rfl rfl rfl ?_
  refine xr_aload_n 6 0 C dX10_weight_5 rfl rfl rfl ?_
  obtain ⟨x6, h6, hf⟩ := mm_bd_e hf
  refine xr_getI 9 C cf_X10_239 rfl h6 dX10_weight_6 rfl ?_
  refine xr_icmp_ge 21 12 C dX10_weight_9 (by decide) rfl (fun hc => ?_) (fun hc => ?_)
  · replace hf := (if_pos hc).symm.trans hf
    refine xr_sub [] (lv2 := []) rfl ?_
    exact w_X10_weight_21 C hf ko
  · replace hf := (if_neg hc).symm.trans hf
    exact w_X10_weight_12 C hf ko
noncomputable def f_X10_weight_0 (M : mm_M) (v0 : Option Nat) (v1 : Int32) : Option (Int64) :=
  if v1 < 0 then f_X10_weight_21 M else f_X10_weight_4 M v0 v1
set_option maxRecDepth 20000 in
theorem w_X10_weight_0 {g : mm_c} (C : mm_ok g cX10_weight "LessonCardsModel" (some .long) "weight" 2 0 0 0 0) {M : mm_M} {v0 : Option Nat} {v1 : Int32} {res : Int64} (hf : f_X10_weight_0 M v0 v1 = some res) (ko : (fun z => mm_q g 0 0 (some (mm_j z)) M) res) : mm_X g 0 0 M 0 [(0, mm_r v0), (1, mm_i v1)] [] := by
  unfold f_X10_weight_0 at hf
  refine xr_iload_n 1 1 C dX10_weight_0 rfl rfl rfl ?_
  refine xr_if_lt 21 4 C dX10_weight_1 (by decide) rfl (fun hc => ?_) (fun hc => ?_)
  · replace hf := (if_pos hc).symm.trans hf
    refine xr_sub [] (lv2 := []) rfl ?_
    exact w_X10_weight_21 C hf ko
  · replace hf := (if_neg hc).symm.trans hf
    exact w_X10_weight_4 C hf ko
noncomputable def f_X10_weight (M : mm_M) (v0 : Option Nat) (v1 : Int32) : Option (Int64) := f_X10_weight_0 M v0 v1
theorem c_X10_weight (l : Launch) (G : va_G) (cy : Nat → ClassId) {M : mm_M} {v0 : Option Nat} {v1 : Int32} {r : Int64} (hf : f_X10_weight M v0 v1 = some r) : mm_Met l yX10_weight cX10_weight 2 (some .long) 0 0 0 0 G cy [mm_r v0, mm_i v1] M (some (mm_j r)) M :=
  mm_enter (by decide) (Nat.le_of_ble_eq_true rfl) (fun p e R s m args below meth c Q C hq => xr_sub [0, 1] (lv2 := [(0, mm_r v0), (1, mm_i v1)]) rfl (w_X10_weight_0 C hf hq))
def h_X10_level_13 (g : mm_c) (M : mm_M) (v0 : Option Nat) : (Int32 × Int32) → Prop := fun x => mm_X g 0 0 M 13 [(0, mm_r v0), (1, mm_i x.1), (2, mm_i x.2)] []
noncomputable def f_X10_level_7 (M : mm_M) : Option (Int32) :=
  some (-1)
set_option maxRecDepth 20000 in
theorem w_X10_level_7 {g : mm_c} (C : mm_ok g cX10_level "LessonCardsModel" (some .int) "level" 3 0 0 0 0) {M : mm_M} {res : Int32} (hf : f_X10_level_7 M = some res) (ko : (fun z => mm_q g 0 0 (some (mm_i z)) M) res) : mm_X g 0 0 M 7 [] [] := by
  unfold f_X10_level_7 at hf
  refine xr_iconst 8 C (v := (-1)) dX10_level_7 (by decide) rfl ?_
  obtain rfl := Option.some.inj hf
  exact xr_iret C ko ⟨(Nat.le_of_ble_eq_true rfl), (Nat.le_of_ble_eq_true rfl)⟩ dX10_level_8
noncomputable def f_X10_level_42 (M : mm_M) (v0 : Option Nat) (v2 : Int32) (s0 : Int32) : Option ((Int32 × Int32) ⊕ (Int32)) :=
  some (.inl (s0, (v2 + 1)))
set_option maxRecDepth 20000 in
theorem w_X10_level_42 {g : mm_c} (C : mm_ok g cX10_level "LessonCardsModel" (some .int) "level" 3 0 0 0 0) {M : mm_M} {v0 : Option Nat} {v2 : Int32} {s0 : Int32} {res : (Int32 × Int32) ⊕ (Int32)} (hf : f_X10_level_42 M v0 v2 s0 = some res) (ko : (mm_o (h_X10_level_13 g M v0) (fun z => mm_q g 0 0 (some (mm_i z)) M)) res) : mm_X g 0 0 M 42 [(0, mm_r v0), (2, mm_i v2)] [mm_i s0] := by
  unfold f_X10_level_42 at hf
  refine xr_istore_n 43 C dX10_level_42 rfl (by decide) rfl [(1, mm_i s0), (0, mm_r v0), (2, mm_i v2)] rfl ?_
  refine xr_iinc 46 2 C dX10_level_43 rfl (by decide) (v := 1) (by decide) rfl [(2, mm_i (v2 + 1)), (1, mm_i s0), (0, mm_r v0)] rfl ?_
  refine xr_goto 13 C dX10_level_46 (by decide) ?_
  refine xr_sub [2, 1, 0] (lv2 := [(0, mm_r v0), (1, mm_i s0), (2, mm_i (v2 + 1))]) rfl ?_
  obtain rfl := Option.some.inj hf
  exact ko
noncomputable def f_X10_level_37 (M : mm_M) (v0 : Option Nat) (v2 : Int32) : Option ((Int32 × Int32) ⊕ (Int32)) :=
  f_X10_level_42 M v0 v2 v2
set_option maxRecDepth 20000 in
theorem w_X10_level_37 {g : mm_c} (C : mm_ok g cX10_level "LessonCardsModel" (some .int) "level" 3 0 0 0 0) {M : mm_M} {v0 : Option Nat} {v2 : Int32} {res : (Int32 × Int32) ⊕ (Int32)} (hf : f_X10_level_37 M v0 v2 = some res) (ko : (mm_o (h_X10_level_13 g M v0) (fun z => mm_q g 0 0 (some (mm_i z)) M)) res) : mm_X g 0 0 M 37 [(0, mm_r v0), (2, mm_i v2)] [] := by
  unfold f_X10_level_37 at hf
  refine xr_iload_n 38 1 C dX10_level_37 rfl rfl rfl ?_
  refine xr_goto 42 C dX10_level_38 (by decide) ?_
  exact w_X10_level_42 C hf ko
noncomputable def f_X10_level_41 (M : mm_M) (v0 : Option Nat) (v1 : Int32) (v2 : Int32) : Option ((Int32 × Int32) ⊕ (Int32)) :=
  f_X10_level_42 M v0 v2 v1
set_option maxRecDepth 20000 in
theorem w_X10_level_41 {g : mm_c} (C : mm_ok g cX10_level "LessonCardsModel" (some .int) "level" 3 0 0 0 0) {M : mm_M} {v0 : Option Nat} {v1 : Int32} {v2 : Int32} {res : (Int32 × Int32) ⊕ (Int32)} (hf : f_X10_level_41 M v0 v1 v2 = some res) (ko : (mm_o (h_X10_level_13 g M v0) (fun z => mm_q g 0 0 (some (mm_i z)) M)) res) : mm_X g 0 0 M 41 [(0, mm_r v0), (1, mm_i v1), (2, mm_i v2)] [] := by
  unfold f_X10_level_41 at hf
  refine xr_iload_n 42 1 C dX10_level_41 rfl rfl rfl ?_
  refine xr_sub [0, 2] (lv2 := [(0, mm_r v0), (2, mm_i v2)]) rfl ?_
  exact w_X10_level_42 C hf ko
noncomputable def f_X10_level_21 (M : mm_M) (v0 : Option Nat) (v1 : Int32) (v2 : Int32) : Option ((Int32 × Int32) ⊕ (Int32)) :=
  (mm_fR M v0 11 38).bind fun x22 =>
  (mm_aL M x22 v2).bind fun x26 =>
  (mm_fR M v0 11 38).bind fun x28 =>
  (mm_aL M x28 v1).bind fun x32 =>
  if (lg_cmp x26 x32) ≤ 0 then f_X10_level_41 M v0 v1 v2 else f_X10_level_37 M v0 v2
set_option maxRecDepth 20000 in
theorem w_X10_level_21 {g : mm_c} (C : mm_ok g cX10_level "LessonCardsModel" (some .int) "level" 3 0 0 0 0) {M : mm_M} {v0 : Option Nat} {v1 : Int32} {v2 : Int32} {res : (Int32 × Int32) ⊕ (Int32)} (hf : f_X10_level_21 M v0 v1 v2 = some res) (ko : (mm_o (h_X10_level_13 g M v0) (fun z => mm_q g 0 0 (some (mm_i z)) M)) res) : mm_X g 0 0 M 21 [(0, mm_r v0), (1, mm_i v1), (2, mm_i v2)] [] := by
  unfold f_X10_level_21 at hf
  refine xr_aload_n 22 0 C dX10_level_21 rfl rfl rfl ?_
  obtain ⟨x22, h22, hf⟩ := mm_bd_e hf
  refine xr_getR 25 C cf_X10_99 rfl h22 dX10_level_22 rfl ?_
  refine xr_iload_n 26 2 C dX10_level_25 rfl rfl rfl ?_
  obtain ⟨x26, h26, hf⟩ := mm_bd_e hf
  refine xr_aldL 27 C h26 dX10_level_26 rfl ?_
  refine xr_aload_n 28 0 C dX10_level_27 rfl rfl rfl ?_
  obtain ⟨x28, h28, hf⟩ := mm_bd_e hf
  refine xr_getR 31 C cf_X10_99 rfl h28 dX10_level_28 rfl ?_
  refine xr_iload_n 32 1 C dX10_level_31 rfl rfl rfl ?_
  obtain ⟨x32, h32, hf⟩ := mm_bd_e hf
  refine xr_aldL 33 C h32 dX10_level_32 rfl ?_
  refine xr_lcmp 34 C dX10_level_33 rfl ?_
  refine xr_if_le 41 37 C dX10_level_34 (by decide) rfl (fun hc => ?_) (fun hc => ?_)
  · replace hf := (if_pos hc).symm.trans hf
    exact w_X10_level_41 C hf ko
  · replace hf := (if_neg hc).symm.trans hf
    refine xr_sub [0, 2] (lv2 := [(0, mm_r v0), (2, mm_i v2)]) rfl ?_
    exact w_X10_level_37 C hf ko
noncomputable def f_X10_level_49 (M : mm_M) (v1 : Int32) : Option (Int32) :=
  some v1
set_option maxRecDepth 20000 in
theorem w_X10_level_49 {g : mm_c} (C : mm_ok g cX10_level "LessonCardsModel" (some .int) "level" 3 0 0 0 0) {M : mm_M} {v1 : Int32} {res : Int32} (hf : f_X10_level_49 M v1 = some res) (ko : (fun z => mm_q g 0 0 (some (mm_i z)) M) res) : mm_X g 0 0 M 49 [(1, mm_i v1)] [] := by
  unfold f_X10_level_49 at hf
  refine xr_iload_n 50 0 C dX10_level_49 rfl rfl rfl ?_
  obtain rfl := Option.some.inj hf
  exact xr_iret C ko ⟨(Nat.le_of_ble_eq_true rfl), (Nat.le_of_ble_eq_true rfl)⟩ dX10_level_50
noncomputable def f_X10_level_13 (M : mm_M) (v0 : Option Nat) (v1 : Int32) (v2 : Int32) : Option ((Int32 × Int32) ⊕ (Int32)) :=
  (mm_fI M v0 11 39).bind fun x15 =>
  if x15 ≤ v2 then mm_mp (f_X10_level_49 M v1) else f_X10_level_21 M v0 v1 v2
set_option maxRecDepth 20000 in
theorem w_X10_level_13 {g : mm_c} (C : mm_ok g cX10_level "LessonCardsModel" (some .int) "level" 3 0 0 0 0) {M : mm_M} {v0 : Option Nat} {v1 : Int32} {v2 : Int32} {res : (Int32 × Int32) ⊕ (Int32)} (hf : f_X10_level_13 M v0 v1 v2 = some res) (ko : (mm_o (h_X10_level_13 g M v0) (fun z => mm_q g 0 0 (some (mm_i z)) M)) res) : mm_X g 0 0 M 13 [(0, mm_r v0), (1, mm_i v1), (2, mm_i v2)] [] := by
  unfold f_X10_level_13 at hf
  refine xr_iload_n 14 2 C dX10_level_13 rfl rfl rfl ?_
  refine xr_aload_n 15 0 C dX10_level_14 rfl rfl rfl ?_
  obtain ⟨x15, h15, hf⟩ := mm_bd_e hf
  refine xr_getI 18 C cf_X10_239 rfl h15 dX10_level_15 rfl ?_
  refine xr_icmp_ge 49 21 C dX10_level_18 (by decide) rfl (fun hc => ?_) (fun hc => ?_)
  · replace hf := (if_pos hc).symm.trans hf
    refine xr_sub [1] (lv2 := [(1, mm_i v1)]) rfl ?_
    obtain ⟨z, hf2, rfl⟩ := mm_mp_e hf
    clear hf
    have hf := hf2
    clear hf2
    exact w_X10_level_49 C hf ko
  · replace hf := (if_neg hc).symm.trans hf
    exact w_X10_level_21 C hf ko
noncomputable def f_X10_level_13w (M : mm_M) (v0 : Option Nat) (v1 : Int32) (v2 : Int32) : Option (Int32) := mm_w (fun x => f_X10_level_13 M v0 x.1 x.2) (v1, v2)
theorem l_X10_level_13 {g : mm_c} (C : mm_ok g cX10_level "LessonCardsModel" (some .int) "level" 3 0 0 0 0) {M : mm_M} {v0 : Option Nat} {v1 : Int32} {v2 : Int32} {res : Int32} (hf : f_X10_level_13w M v0 v1 v2 = some res) (ko : (fun z => mm_q g 0 0 (some (mm_i z)) M) res) : mm_X g 0 0 M 13 [(0, mm_r v0), (1, mm_i v1), (2, mm_i v2)] [] :=
  mm_w_W (body := fun x => f_X10_level_13 M v0 x.1 x.2) (Wh := h_X10_level_13 g M v0) (ok := (fun z => mm_q g 0 0 (some (mm_i z)) M)) (x := (v1, v2)) (fun x r hb ho => w_X10_level_13 C hb ho) hf ko
noncomputable def f_X10_level_9 (M : mm_M) (v0 : Option Nat) : Option (Int32) :=
  f_X10_level_13w M v0 0 1
set_option maxRecDepth 20000 in
theorem w_X10_level_9 {g : mm_c} (C : mm_ok g cX10_level "LessonCardsModel" (some .int) "level" 3 0 0 0 0) {M : mm_M} {v0 : Option Nat} {res : Int32} (hf : f_X10_level_9 M v0 = some res) (ko : (fun z => mm_q g 0 0 (some (mm_i z)) M) res) : mm_X g 0 0 M 9 [(0, mm_r v0)] [] := by
  unfold f_X10_level_9 at hf
  refine xr_iconst 10 C (v := 0) dX10_level_9 (by decide) rfl ?_
  refine xr_istore_n 11 C dX10_level_10 rfl (by decide) rfl [(1, mm_i 0), (0, mm_r v0)] rfl ?_
  refine xr_iconst 12 C (v := 1) dX10_level_11 (by decide) rfl ?_
  refine xr_istore_n 13 C dX10_level_12 rfl (by decide) rfl [(2, mm_i 1), (1, mm_i 0), (0, mm_r v0)] rfl ?_
  refine xr_sub [2, 1, 0] (lv2 := [(0, mm_r v0), (1, mm_i 0), (2, mm_i 1)]) rfl ?_
  exact l_X10_level_13 C hf ko
noncomputable def f_X10_level_0 (M : mm_M) (v0 : Option Nat) : Option (Int32) :=
  (mm_fI M v0 11 39).bind fun x1 =>
  if x1 = 0 then f_X10_level_7 M else f_X10_level_9 M v0
set_option maxRecDepth 20000 in
theorem w_X10_level_0 {g : mm_c} (C : mm_ok g cX10_level "LessonCardsModel" (some .int) "level" 3 0 0 0 0) {M : mm_M} {v0 : Option Nat} {res : Int32} (hf : f_X10_level_0 M v0 = some res) (ko : (fun z => mm_q g 0 0 (some (mm_i z)) M) res) : mm_X g 0 0 M 0 [(0, mm_r v0)] [] := by
  unfold f_X10_level_0 at hf
  refine xr_aload_n 1 0 C dX10_level_0 rfl rfl rfl ?_
  obtain ⟨x1, h1, hf⟩ := mm_bd_e hf
  refine xr_getI 4 C cf_X10_239 rfl h1 dX10_level_1 rfl ?_
  refine xr_if_ne 9 7 C dX10_level_4 (by decide) rfl (fun hc => ?_) (fun hc => ?_)
  · replace hf := (if_neg hc).symm.trans hf
    exact w_X10_level_9 C hf ko
  · replace hf := (if_pos hc).symm.trans hf
    refine xr_sub [] (lv2 := []) rfl ?_
    exact w_X10_level_7 C hf ko
noncomputable def f_X10_level (M : mm_M) (v0 : Option Nat) : Option (Int32) := f_X10_level_0 M v0
theorem c_X10_level (l : Launch) (G : va_G) (cy : Nat → ClassId) {M : mm_M} {v0 : Option Nat} {r : Int32} (hf : f_X10_level M v0 = some r) : mm_Met l yX10_level cX10_level 3 (some .int) 0 0 0 0 G cy [mm_r v0] M (some (mm_i r)) M :=
  mm_enter (by decide) (Nat.le_of_ble_eq_true rfl) (fun p e R s m args below meth c Q C hq => xr_sub [0] (lv2 := [(0, mm_r v0)]) rfl (w_X10_level_0 C hf hq))
noncomputable def f_X10_log_0 (M : mm_M) (v0 : Option Nat) : Option (Int32) :=
  (mm_fI M v0 11 28).bind fun x1 =>
  some x1
set_option maxRecDepth 20000 in
theorem w_X10_log_0 {g : mm_c} (C : mm_ok g cX10_log "LessonCardsModel" (some .int) "log" 1 0 0 0 0) {M : mm_M} {v0 : Option Nat} {res : Int32} (hf : f_X10_log_0 M v0 = some res) (ko : (fun z => mm_q g 0 0 (some (mm_i z)) M) res) : mm_X g 0 0 M 0 [(0, mm_r v0)] [] := by
  unfold f_X10_log_0 at hf
  refine xr_aload_n 1 0 C dX10_log_0 rfl rfl rfl ?_
  obtain ⟨x1, h1, hf⟩ := mm_bd_e hf
  refine xr_getI 4 C cf_X10_207 rfl h1 dX10_log_1 rfl ?_
  obtain rfl := Option.some.inj hf
  exact xr_iret C ko ⟨(Nat.le_of_ble_eq_true rfl), (Nat.le_of_ble_eq_true rfl)⟩ dX10_log_4
noncomputable def f_X10_log (M : mm_M) (v0 : Option Nat) : Option (Int32) := f_X10_log_0 M v0
theorem c_X10_log (l : Launch) (G : va_G) (cy : Nat → ClassId) {M : mm_M} {v0 : Option Nat} {r : Int32} (hf : f_X10_log M v0 = some r) : mm_Met l yX10_log cX10_log 1 (some .int) 0 0 0 0 G cy [mm_r v0] M (some (mm_i r)) M :=
  mm_enter (by decide) (Nat.le_of_ble_eq_true rfl) (fun p e R s m args below meth c Q C hq => xr_sub [0] (lv2 := [(0, mm_r v0)]) rfl (w_X10_log_0 C hf hq))
noncomputable def f_X10_logged_12 (M : mm_M) : Option (Int32) :=
  some (-1)
set_option maxRecDepth 20000 in
theorem w_X10_logged_12 {g : mm_c} (C : mm_ok g cX10_logged "LessonCardsModel" (some .int) "logged" 4 0 0 0 0) {M : mm_M} {res : Int32} (hf : f_X10_logged_12 M = some res) (ko : (fun z => mm_q g 0 0 (some (mm_i z)) M) res) : mm_X g 0 0 M 12 [] [] := by
  unfold f_X10_logged_12 at hf
  refine xr_iconst 13 C (v := (-1)) dX10_logged_12 (by decide) rfl ?_
  obtain rfl := Option.some.inj hf
  exact xr_iret C ko ⟨(Nat.le_of_ble_eq_true rfl), (Nat.le_of_ble_eq_true rfl)⟩ dX10_logged_13
noncomputable def f_X10_logged_93 (M : mm_M) : Option (Int32) :=
  some (-1)
set_option maxRecDepth 20000 in
theorem w_X10_logged_93 {g : mm_c} (C : mm_ok g cX10_logged "LessonCardsModel" (some .int) "logged" 4 0 0 0 0) {M : mm_M} {res : Int32} (hf : f_X10_logged_93 M = some res) (ko : (fun z => mm_q g 0 0 (some (mm_i z)) M) res) : mm_X g 0 0 M 93 [] [] := by
  unfold f_X10_logged_93 at hf
  refine xr_iconst 94 C (v := (-1)) dX10_logged_93 (by decide) rfl ?_
  obtain rfl := Option.some.inj hf
  exact xr_iret C ko ⟨(Nat.le_of_ble_eq_true rfl), (Nat.le_of_ble_eq_true rfl)⟩ dX10_logged_94
noncomputable def f_X10_logged_60 (M : mm_M) (v0 : Option Nat) (v1 : Int32) : Option (Int32) :=
  (mm_fR M v0 11 18).bind fun x61 =>
  (mm_aI M x61 12 v1).bind fun x65 =>
  some (x65 / 480)
set_option maxRecDepth 20000 in
theorem w_X10_logged_60 {g : mm_c} (C : mm_ok g cX10_logged "LessonCardsModel" (some .int) "logged" 4 0 0 0 0) {M : mm_M} {v0 : Option Nat} {v1 : Int32} {res : Int32} (hf : f_X10_logged_60 M v0 v1 = some res) (ko : (fun z => mm_q g 0 0 (some (mm_i z)) M) res) : mm_X g 0 0 M 60 [(0, mm_r v0), (1, mm_i v1)] [] := by
  unfold f_X10_logged_60 at hf
  refine xr_aload_n 61 0 C dX10_logged_60 rfl rfl rfl ?_
  obtain ⟨x61, h61, hf⟩ := mm_bd_e hf
  refine xr_getR 64 C cf_X10_60 rfl h61 dX10_logged_61 rfl ?_
  refine xr_iload_n 65 1 C dX10_logged_64 rfl rfl rfl ?_
  obtain ⟨x65, h65, hf⟩ := mm_bd_e hf
  refine xr_aldI 66 C h65 dX10_logged_65 rfl ?_
  refine xr_sipush 69 C (v := 480) dX10_logged_66 (by decide) rfl ?_
  refine xr_idiv 70 C dX10_logged_69 (by decide) rfl ?_
  obtain rfl := Option.some.inj hf
  exact xr_iret C ko ⟨(Nat.le_of_ble_eq_true rfl), (Nat.le_of_ble_eq_true rfl)⟩ dX10_logged_70
noncomputable def f_X10_logged_71 (M : mm_M) (v3 : Int32) : Option (Int32) :=
  some (v3 / 4)
set_option maxRecDepth 20000 in
theorem w_X10_logged_71 {g : mm_c} (C : mm_ok g cX10_logged "LessonCardsModel" (some .int) "logged" 4 0 0 0 0) {M : mm_M} {v3 : Int32} {res : Int32} (hf : f_X10_logged_71 M v3 = some res) (ko : (fun z => mm_q g 0 0 (some (mm_i z)) M) res) : mm_X g 0 0 M 71 [(3, mm_i v3)] [] := by
  unfold f_X10_logged_71 at hf
  refine xr_iload_n 72 0 C dX10_logged_71 rfl rfl rfl ?_
  refine xr_iconst 73 C (v := 4) dX10_logged_72 (by decide) rfl ?_
  refine xr_idiv 74 C dX10_logged_73 (by decide) rfl ?_
  obtain rfl := Option.some.inj hf
  exact xr_iret C ko ⟨(Nat.le_of_ble_eq_true rfl), (Nat.le_of_ble_eq_true rfl)⟩ dX10_logged_74
noncomputable def f_X10_logged_75 (M : mm_M) (v3 : Int32) : Option (Int32) :=
  some (v3 - v3 / 4 * 4)
set_option maxRecDepth 20000 in
theorem w_X10_logged_75 {g : mm_c} (C : mm_ok g cX10_logged "LessonCardsModel" (some .int) "logged" 4 0 0 0 0) {M : mm_M} {v3 : Int32} {res : Int32} (hf : f_X10_logged_75 M v3 = some res) (ko : (fun z => mm_q g 0 0 (some (mm_i z)) M) res) : mm_X g 0 0 M 75 [(3, mm_i v3)] [] := by
  unfold f_X10_logged_75 at hf
  refine xr_iload_n 76 0 C dX10_logged_75 rfl rfl rfl ?_
  refine xr_iconst 77 C (v := 4) dX10_logged_76 (by decide) rfl ?_
  refine xr_irem 78 C dX10_logged_77 (by decide) rfl ?_
  obtain rfl := Option.some.inj hf
  exact xr_iret C ko ⟨(Nat.le_of_ble_eq_true rfl), (Nat.le_of_ble_eq_true rfl)⟩ dX10_logged_78
noncomputable def f_X10_logged_79 (M : mm_M) (v0 : Option Nat) (v1 : Int32) : Option (Int32) :=
  (mm_fR M v0 11 19).bind fun x80 =>
  (mm_aI M x80 12 v1).bind fun x84 =>
  some x84
set_option maxRecDepth 20000 in
theorem w_X10_logged_79 {g : mm_c} (C : mm_ok g cX10_logged "LessonCardsModel" (some .int) "logged" 4 0 0 0 0) {M : mm_M} {v0 : Option Nat} {v1 : Int32} {res : Int32} (hf : f_X10_logged_79 M v0 v1 = some res) (ko : (fun z => mm_q g 0 0 (some (mm_i z)) M) res) : mm_X g 0 0 M 79 [(0, mm_r v0), (1, mm_i v1)] [] := by
  unfold f_X10_logged_79 at hf
  refine xr_aload_n 80 0 C dX10_logged_79 rfl rfl rfl ?_
  obtain ⟨x80, h80, hf⟩ := mm_bd_e hf
  refine xr_getR 83 C cf_X10_63 rfl h80 dX10_logged_80 rfl ?_
  refine xr_iload_n 84 1 C dX10_logged_83 rfl rfl rfl ?_
  obtain ⟨x84, h84, hf⟩ := mm_bd_e hf
  refine xr_aldI 85 C h84 dX10_logged_84 rfl ?_
  obtain rfl := Option.some.inj hf
  exact xr_iret C ko ⟨(Nat.le_of_ble_eq_true rfl), (Nat.le_of_ble_eq_true rfl)⟩ dX10_logged_85
noncomputable def f_X10_logged_86 (M : mm_M) (v0 : Option Nat) (v1 : Int32) : Option (Int32) :=
  (mm_fR M v0 11 20).bind fun x87 =>
  (mm_aI M x87 12 v1).bind fun x91 =>
  some x91
set_option maxRecDepth 20000 in
theorem w_X10_logged_86 {g : mm_c} (C : mm_ok g cX10_logged "LessonCardsModel" (some .int) "logged" 4 0 0 0 0) {M : mm_M} {v0 : Option Nat} {v1 : Int32} {res : Int32} (hf : f_X10_logged_86 M v0 v1 = some res) (ko : (fun z => mm_q g 0 0 (some (mm_i z)) M) res) : mm_X g 0 0 M 86 [(0, mm_r v0), (1, mm_i v1)] [] := by
  unfold f_X10_logged_86 at hf
  refine xr_aload_n 87 0 C dX10_logged_86 rfl rfl rfl ?_
  obtain ⟨x87, h87, hf⟩ := mm_bd_e hf
  refine xr_getR 90 C cf_X10_66 rfl h87 dX10_logged_87 rfl ?_
  refine xr_iload_n 91 1 C dX10_logged_90 rfl rfl rfl ?_
  obtain ⟨x91, h91, hf⟩ := mm_bd_e hf
  refine xr_aldI 92 C h91 dX10_logged_91 rfl ?_
  obtain rfl := Option.some.inj hf
  exact xr_iret C ko ⟨(Nat.le_of_ble_eq_true rfl), (Nat.le_of_ble_eq_true rfl)⟩ dX10_logged_92
noncomputable def f_X10_logged_14 (M : mm_M) (v0 : Option Nat) (v1 : Int32) (v2 : Int32) : Option (Int32) :=
  (mm_fR M v0 11 18).bind fun x15 =>
  (mm_aI M x15 12 v1).bind fun x19 =>
  if v2 = 0 then f_X10_logged_60 M v0 v1 else if v2 = 1 then f_X10_logged_71 M (x19 - x19 / 480 * 480) else if v2 = 2 then f_X10_logged_75 M (x19 - x19 / 480 * 480) else if v2 = 3 then f_X10_logged_79 M v0 v1 else if v2 = 4 then f_X10_logged_86 M v0 v1 else f_X10_logged_93 M
set_option maxRecDepth 20000 in
theorem w_X10_logged_14 {g : mm_c} (C : mm_ok g cX10_logged "LessonCardsModel" (some .int) "logged" 4 0 0 0 0) {M : mm_M} {v0 : Option Nat} {v1 : Int32} {v2 : Int32} {res : Int32} (hf : f_X10_logged_14 M v0 v1 v2 = some res) (ko : (fun z => mm_q g 0 0 (some (mm_i z)) M) res) : mm_X g 0 0 M 14 [(0, mm_r v0), (1, mm_i v1), (2, mm_i v2)] [] := by
  unfold f_X10_logged_14 at hf
  refine xr_aload_n 15 0 C dX10_logged_14 rfl rfl rfl ?_
  obtain ⟨x15, h15, hf⟩ := mm_bd_e hf
  refine xr_getR 18 C cf_X10_60 rfl h15 dX10_logged_15 rfl ?_
  refine xr_iload_n 19 1 C dX10_logged_18 rfl rfl rfl ?_
  obtain ⟨x19, h19, hf⟩ := mm_bd_e hf
  refine xr_aldI 20 C h19 dX10_logged_19 rfl ?_
  refine xr_sipush 23 C (v := 480) dX10_logged_20 (by decide) rfl ?_
  refine xr_irem 24 C dX10_logged_23 (by decide) rfl ?_
  refine xr_istore_n 25 C dX10_logged_24 rfl (by decide) rfl [(3, mm_i (x19 - x19 / 480 * 480)), (0, mm_r v0), (1, mm_i v1), (2, mm_i v2)] rfl ?_
  refine xr_iload_n 26 3 C dX10_logged_25 rfl rfl rfl ?_
  rcases mm_if_e hf with ⟨hc0, hf⟩ | ⟨hc0, hf⟩
  · refine xr_tin 60 C dX10_logged_26 (off := 34) hc0 (by decide) (by decide) (by decide) (by decide) ?_
    refine xr_sub [1, 2] (lv2 := [(0, mm_r v0), (1, mm_i v1)]) rfl ?_
    exact w_X10_logged_60 C hf ko
  ·
    rcases mm_if_e hf with ⟨hc1, hf⟩ | ⟨hc1, hf⟩
    · refine xr_tin 71 C dX10_logged_26 (off := 45) hc1 (by decide) (by decide) (by decide) (by decide) ?_
      refine xr_sub [0] (lv2 := [(3, mm_i (x19 - x19 / 480 * 480))]) rfl ?_
      exact w_X10_logged_71 C hf ko
    ·
      rcases mm_if_e hf with ⟨hc2, hf⟩ | ⟨hc2, hf⟩
      · refine xr_tin 75 C dX10_logged_26 (off := 49) hc2 (by decide) (by decide) (by decide) (by decide) ?_
        refine xr_sub [0] (lv2 := [(3, mm_i (x19 - x19 / 480 * 480))]) rfl ?_
        exact w_X10_logged_75 C hf ko
      ·
        rcases mm_if_e hf with ⟨hc3, hf⟩ | ⟨hc3, hf⟩
        · refine xr_tin 79 C dX10_logged_26 (off := 53) hc3 (by decide) (by decide) (by decide) (by decide) ?_
          refine xr_sub [1, 2] (lv2 := [(0, mm_r v0), (1, mm_i v1)]) rfl ?_
          exact w_X10_logged_79 C hf ko
        ·
          rcases mm_if_e hf with ⟨hc4, hf⟩ | ⟨hc4, hf⟩
          · refine xr_tin 86 C dX10_logged_26 (off := 60) hc4 (by decide) (by decide) (by decide) (by decide) ?_
            refine xr_sub [1, 2] (lv2 := [(0, mm_r v0), (1, mm_i v1)]) rfl ?_
            exact w_X10_logged_86 C hf ko
          ·
            refine xr_tout 93 C dX10_logged_26 (mm_swd _ 4 (by decide) (fun k hk => by rcases (show k = 0 ∨ k = 1 ∨ k = 2 ∨ k = 3 ∨ k = 4 by omega) with rfl | rfl | rfl | rfl | rfl <;> assumption)) (by decide) ?_
            refine xr_sub [] (lv2 := []) rfl ?_
            exact w_X10_logged_93 C hf ko
noncomputable def f_X10_logged_4 (M : mm_M) (v0 : Option Nat) (v1 : Int32) (v2 : Int32) : Option (Int32) :=
  (mm_fI M v0 11 28).bind fun x6 =>
  if v1 < x6 then f_X10_logged_14 M v0 v1 v2 else f_X10_logged_12 M
set_option maxRecDepth 20000 in
theorem w_X10_logged_4 {g : mm_c} (C : mm_ok g cX10_logged "LessonCardsModel" (some .int) "logged" 4 0 0 0 0) {M : mm_M} {v0 : Option Nat} {v1 : Int32} {v2 : Int32} {res : Int32} (hf : f_X10_logged_4 M v0 v1 v2 = some res) (ko : (fun z => mm_q g 0 0 (some (mm_i z)) M) res) : mm_X g 0 0 M 4 [(0, mm_r v0), (1, mm_i v1), (2, mm_i v2)] [] := by
  unfold f_X10_logged_4 at hf
  refine xr_iload_n 5 1 C dX10_logged_4 rfl rfl rfl ?_
  refine xr_aload_n 6 0 C dX10_logged_5 rfl rfl rfl ?_
  obtain ⟨x6, h6, hf⟩ := mm_bd_e hf
  refine xr_getI 9 C cf_X10_207 rfl h6 dX10_logged_6 rfl ?_
  refine xr_icmp_lt 14 12 C dX10_logged_9 (by decide) rfl (fun hc => ?_) (fun hc => ?_)
  · replace hf := (if_pos hc).symm.trans hf
    exact w_X10_logged_14 C hf ko
  · replace hf := (if_neg hc).symm.trans hf
    refine xr_sub [] (lv2 := []) rfl ?_
    exact w_X10_logged_12 C hf ko
noncomputable def f_X10_logged_0 (M : mm_M) (v0 : Option Nat) (v1 : Int32) (v2 : Int32) : Option (Int32) :=
  if v1 < 0 then f_X10_logged_12 M else f_X10_logged_4 M v0 v1 v2
set_option maxRecDepth 20000 in
theorem w_X10_logged_0 {g : mm_c} (C : mm_ok g cX10_logged "LessonCardsModel" (some .int) "logged" 4 0 0 0 0) {M : mm_M} {v0 : Option Nat} {v1 : Int32} {v2 : Int32} {res : Int32} (hf : f_X10_logged_0 M v0 v1 v2 = some res) (ko : (fun z => mm_q g 0 0 (some (mm_i z)) M) res) : mm_X g 0 0 M 0 [(0, mm_r v0), (1, mm_i v1), (2, mm_i v2)] [] := by
  unfold f_X10_logged_0 at hf
  refine xr_iload_n 1 1 C dX10_logged_0 rfl rfl rfl ?_
  refine xr_if_lt 12 4 C dX10_logged_1 (by decide) rfl (fun hc => ?_) (fun hc => ?_)
  · replace hf := (if_pos hc).symm.trans hf
    refine xr_sub [] (lv2 := []) rfl ?_
    exact w_X10_logged_12 C hf ko
  · replace hf := (if_neg hc).symm.trans hf
    exact w_X10_logged_4 C hf ko
noncomputable def f_X10_logged (M : mm_M) (v0 : Option Nat) (v1 : Int32) (v2 : Int32) : Option (Int32) := f_X10_logged_0 M v0 v1 v2
theorem c_X10_logged (l : Launch) (G : va_G) (cy : Nat → ClassId) {M : mm_M} {v0 : Option Nat} {v1 : Int32} {v2 : Int32} {r : Int32} (hf : f_X10_logged M v0 v1 v2 = some r) : mm_Met l yX10_logged cX10_logged 4 (some .int) 0 0 0 0 G cy [mm_r v0, mm_i v1, mm_i v2] M (some (mm_i r)) M :=
  mm_enter (by decide) (Nat.le_of_ble_eq_true rfl) (fun p e R s m args below meth c Q C hq => xr_sub [0, 1, 2] (lv2 := [(0, mm_r v0), (1, mm_i v1), (2, mm_i v2)]) rfl (w_X10_logged_0 C hf hq))
def h_X10_replay_9 (g : mm_c) (v0 : Option Nat) (v1 : Int32) (v2 : Int32) : (mm_M × Int64 × Int32) → Prop := fun x => mm_X g 0 0 x.1 9 [(0, mm_r v0), (1, mm_i v1), (2, mm_i v2), (3, mm_j x.2.1), (5, mm_i x.2.2)] []
noncomputable def f_X10_replay_134 (M : mm_M) (v0 : Option Nat) (v1 : Int32) (v2 : Int32) (v3 : Int64) (v5 : Int32) : Option ((mm_M × Int64 × Int32) ⊕ (Int64 × mm_M)) :=
  some (.inl (M, v3, (v5 + 1)))
set_option maxRecDepth 20000 in
theorem w_X10_replay_134 {g : mm_c} (C : mm_ok g cX10_replay "LessonCardsModel" (some .long) "replay" 7 3 76 0 0) {M : mm_M} {v0 : Option Nat} {v1 : Int32} {v2 : Int32} {v3 : Int64} {v5 : Int32} {res : (mm_M × Int64 × Int32) ⊕ (Int64 × mm_M)} (hf : f_X10_replay_134 M v0 v1 v2 v3 v5 = some res) (ko : (mm_o (h_X10_replay_9 g v0 v1 v2) (fun z => mm_q g 0 0 (some (mm_j z.1)) z.2)) res) : mm_X g 0 0 M 134 [(0, mm_r v0), (1, mm_i v1), (2, mm_i v2), (3, mm_j v3), (5, mm_i v5)] [] := by
  unfold f_X10_replay_134 at hf
  refine xr_iinc 137 4 C dX10_replay_134 rfl (by decide) (v := 1) (by decide) rfl [(5, mm_i (v5 + 1)), (0, mm_r v0), (1, mm_i v1), (2, mm_i v2), (3, mm_j v3)] rfl ?_
  refine xr_goto 9 C dX10_replay_137 (by decide) ?_
  refine xr_sub [1, 2, 3, 4, 0] (lv2 := [(0, mm_r v0), (1, mm_i v1), (2, mm_i v2), (3, mm_j v3), (5, mm_i (v5 + 1))]) rfl ?_
  obtain rfl := Option.some.inj hf
  exact ko
noncomputable def f_X10_replay_117 (M : mm_M) (v0 : Option Nat) (v1 : Int32) (v2 : Int32) (v3 : Int64) (v5 : Int32) (s0 : Option Nat) (s1 : Int32) (s2 : Int32) : Option ((mm_M × Int64 × Int32) ⊕ (Int64 × mm_M)) :=
  (mm_fR M v0 11 20).bind fun x118 =>
  (mm_aI M x118 12 v5).bind fun x123 =>
  (mm_fR M v0 11 19).bind fun x125 =>
  (mm_aI M x125 12 v5).bind fun x130 =>
  (mm_rc M s0 11).bind fun u131 =>
  (f_X10_answerBy M s0 s1 s2 x123 x130).bind fun M131 =>
  f_X10_replay_134 M131 v0 v1 v2 v3 v5
set_option maxRecDepth 20000 in
theorem w_X10_replay_117 {g : mm_c} (C : mm_ok g cX10_replay "LessonCardsModel" (some .long) "replay" 7 3 76 0 0) {M : mm_M} {v0 : Option Nat} {v1 : Int32} {v2 : Int32} {v3 : Int64} {v5 : Int32} {s0 : Option Nat} {s1 : Int32} {s2 : Int32} {res : (mm_M × Int64 × Int32) ⊕ (Int64 × mm_M)} (hf : f_X10_replay_117 M v0 v1 v2 v3 v5 s0 s1 s2 = some res) (ko : (mm_o (h_X10_replay_9 g v0 v1 v2) (fun z => mm_q g 0 0 (some (mm_j z.1)) z.2)) res) : mm_X g 0 0 M 117 [(0, mm_r v0), (1, mm_i v1), (2, mm_i v2), (3, mm_j v3), (5, mm_i v5)] [mm_i s2, mm_i s1, mm_r s0] := by
  unfold f_X10_replay_117 at hf
  refine xr_aload_n 118 0 C dX10_replay_117 rfl rfl rfl ?_
  obtain ⟨x118, h118, hf⟩ := mm_bd_e hf
  refine xr_getR 121 C cf_X10_66 rfl h118 dX10_replay_118 rfl ?_
  refine xr_iload 123 4 C dX10_replay_121 rfl rfl ?_
  obtain ⟨x123, h123, hf⟩ := mm_bd_e hf
  refine xr_aldI 124 C h123 dX10_replay_123 rfl ?_
  refine xr_aload_n 125 0 C dX10_replay_124 rfl rfl rfl ?_
  obtain ⟨x125, h125, hf⟩ := mm_bd_e hf
  refine xr_getR 128 C cf_X10_63 rfl h125 dX10_replay_125 rfl ?_
  refine xr_iload 130 4 C dX10_replay_128 rfl rfl ?_
  obtain ⟨x130, h130, hf⟩ := mm_bd_e hf
  refine xr_aldI 131 C h130 dX10_replay_130 rfl ?_
  obtain ⟨u131, g131, hf⟩ := mm_bd_e hf
  obtain ⟨M131, h131, hf⟩ := mm_bd_e hf
  refine xr_callV 134 C [mm_i s1, mm_i s2, mm_i x123, mm_i x130] cm_X10_210 (fun l G cy => c_X10_answerBy l G cy h131) g131 rfl rfl ⟨⟨Nat.le_of_ble_eq_true rfl, Nat.le_of_ble_eq_true rfl⟩, (Nat.le_of_ble_eq_true rfl), (Nat.le_of_ble_eq_true rfl)⟩ (Nat.le_of_ble_eq_true rfl) dX10_replay_131 rfl ?_
  exact w_X10_replay_134 C hf ko
noncomputable def f_X10_replay_95 (M : mm_M) (v0 : Option Nat) (v1 : Int32) (v2 : Int32) (v3 : Int64) (v5 : Int32) (s0 : Option Nat) (s1 : Int32) : Option ((mm_M × Int64 × Int32) ⊕ (Int64 × mm_M)) :=
  (mm_fR M v0 11 22).bind fun x96 =>
  (mm_aI M x96 12 v5).bind fun x101 =>
  f_X10_replay_117 M v0 v1 v2 v3 v5 s0 s1 x101
set_option maxRecDepth 20000 in
theorem w_X10_replay_95 {g : mm_c} (C : mm_ok g cX10_replay "LessonCardsModel" (some .long) "replay" 7 3 76 0 0) {M : mm_M} {v0 : Option Nat} {v1 : Int32} {v2 : Int32} {v3 : Int64} {v5 : Int32} {s0 : Option Nat} {s1 : Int32} {res : (mm_M × Int64 × Int32) ⊕ (Int64 × mm_M)} (hf : f_X10_replay_95 M v0 v1 v2 v3 v5 s0 s1 = some res) (ko : (mm_o (h_X10_replay_9 g v0 v1 v2) (fun z => mm_q g 0 0 (some (mm_j z.1)) z.2)) res) : mm_X g 0 0 M 95 [(0, mm_r v0), (1, mm_i v1), (2, mm_i v2), (3, mm_j v3), (5, mm_i v5)] [mm_i s1, mm_r s0] := by
  unfold f_X10_replay_95 at hf
  refine xr_aload_n 96 0 C dX10_replay_95 rfl rfl rfl ?_
  obtain ⟨x96, h96, hf⟩ := mm_bd_e hf
  refine xr_getR 99 C cf_X10_72 rfl h96 dX10_replay_96 rfl ?_
  refine xr_iload 101 4 C dX10_replay_99 rfl rfl ?_
  obtain ⟨x101, h101, hf⟩ := mm_bd_e hf
  refine xr_aldI 102 C h101 dX10_replay_101 rfl ?_
  refine xr_goto 117 C dX10_replay_102 (by decide) ?_
  exact w_X10_replay_117 C hf ko
noncomputable def f_X10_replay_105 (M : mm_M) (v0 : Option Nat) (v1 : Int32) (v2 : Int32) (v3 : Int64) (v5 : Int32) (s0 : Option Nat) (s1 : Int32) : Option ((mm_M × Int64 × Int32) ⊕ (Int64 × mm_M)) :=
  (mm_fR M v0 11 5).bind fun x106 =>
  (mm_fR M v0 11 20).bind fun x110 =>
  (mm_aI M x110 12 v5).bind fun x115 =>
  (mm_aI M x106 12 x115).bind fun x116 =>
  f_X10_replay_117 M v0 v1 v2 v3 v5 s0 s1 x116
set_option maxRecDepth 20000 in
theorem w_X10_replay_105 {g : mm_c} (C : mm_ok g cX10_replay "LessonCardsModel" (some .long) "replay" 7 3 76 0 0) {M : mm_M} {v0 : Option Nat} {v1 : Int32} {v2 : Int32} {v3 : Int64} {v5 : Int32} {s0 : Option Nat} {s1 : Int32} {res : (mm_M × Int64 × Int32) ⊕ (Int64 × mm_M)} (hf : f_X10_replay_105 M v0 v1 v2 v3 v5 s0 s1 = some res) (ko : (mm_o (h_X10_replay_9 g v0 v1 v2) (fun z => mm_q g 0 0 (some (mm_j z.1)) z.2)) res) : mm_X g 0 0 M 105 [(0, mm_r v0), (1, mm_i v1), (2, mm_i v2), (3, mm_j v3), (5, mm_i v5)] [mm_i s1, mm_r s0] := by
  unfold f_X10_replay_105 at hf
  refine xr_aload_n 106 0 C dX10_replay_105 rfl rfl rfl ?_
  obtain ⟨x106, h106, hf⟩ := mm_bd_e hf
  refine xr_getR 109 C cf_X10_19 rfl h106 dX10_replay_106 rfl ?_
  refine xr_aload_n 110 0 C dX10_replay_109 rfl rfl rfl ?_
  obtain ⟨x110, h110, hf⟩ := mm_bd_e hf
  refine xr_getR 113 C cf_X10_66 rfl h110 dX10_replay_110 rfl ?_
  refine xr_iload 115 4 C dX10_replay_113 rfl rfl ?_
  obtain ⟨x115, h115, hf⟩ := mm_bd_e hf
  refine xr_aldI 116 C h115 dX10_replay_115 rfl ?_
  obtain ⟨x116, h116, hf⟩ := mm_bd_e hf
  refine xr_aldI 117 C h116 dX10_replay_116 rfl ?_
  exact w_X10_replay_117 C hf ko
noncomputable def f_X10_replay_91 (M : mm_M) (v0 : Option Nat) (v1 : Int32) (v2 : Int32) (v3 : Int64) (v5 : Int32) (s0 : Option Nat) (s1 : Int32) : Option ((mm_M × Int64 × Int32) ⊕ (Int64 × mm_M)) :=
  if 0 ≤ v2 then f_X10_replay_105 M v0 v1 v2 v3 v5 s0 s1 else f_X10_replay_95 M v0 v1 v2 v3 v5 s0 s1
set_option maxRecDepth 20000 in
theorem w_X10_replay_91 {g : mm_c} (C : mm_ok g cX10_replay "LessonCardsModel" (some .long) "replay" 7 3 76 0 0) {M : mm_M} {v0 : Option Nat} {v1 : Int32} {v2 : Int32} {v3 : Int64} {v5 : Int32} {s0 : Option Nat} {s1 : Int32} {res : (mm_M × Int64 × Int32) ⊕ (Int64 × mm_M)} (hf : f_X10_replay_91 M v0 v1 v2 v3 v5 s0 s1 = some res) (ko : (mm_o (h_X10_replay_9 g v0 v1 v2) (fun z => mm_q g 0 0 (some (mm_j z.1)) z.2)) res) : mm_X g 0 0 M 91 [(0, mm_r v0), (1, mm_i v1), (2, mm_i v2), (3, mm_j v3), (5, mm_i v5)] [mm_i s1, mm_r s0] := by
  unfold f_X10_replay_91 at hf
  refine xr_iload_n 92 2 C dX10_replay_91 rfl rfl rfl ?_
  refine xr_if_ge 105 95 C dX10_replay_92 (by decide) rfl (fun hc => ?_) (fun hc => ?_)
  · replace hf := (if_pos hc).symm.trans hf
    exact w_X10_replay_105 C hf ko
  · replace hf := (if_neg hc).symm.trans hf
    exact w_X10_replay_95 C hf ko
noncomputable def f_X10_replay_80 (M : mm_M) (v0 : Option Nat) (v1 : Int32) (v2 : Int32) (v3 : Int64) (v5 : Int32) (s0 : Option Nat) : Option ((mm_M × Int64 × Int32) ⊕ (Int64 × mm_M)) :=
  (mm_fR M v0 11 21).bind fun x81 =>
  (mm_aI M x81 12 v5).bind fun x86 =>
  f_X10_replay_91 M v0 v1 v2 v3 v5 s0 x86
set_option maxRecDepth 20000 in
theorem w_X10_replay_80 {g : mm_c} (C : mm_ok g cX10_replay "LessonCardsModel" (some .long) "replay" 7 3 76 0 0) {M : mm_M} {v0 : Option Nat} {v1 : Int32} {v2 : Int32} {v3 : Int64} {v5 : Int32} {s0 : Option Nat} {res : (mm_M × Int64 × Int32) ⊕ (Int64 × mm_M)} (hf : f_X10_replay_80 M v0 v1 v2 v3 v5 s0 = some res) (ko : (mm_o (h_X10_replay_9 g v0 v1 v2) (fun z => mm_q g 0 0 (some (mm_j z.1)) z.2)) res) : mm_X g 0 0 M 80 [(0, mm_r v0), (1, mm_i v1), (2, mm_i v2), (3, mm_j v3), (5, mm_i v5)] [mm_r s0] := by
  unfold f_X10_replay_80 at hf
  refine xr_aload_n 81 0 C dX10_replay_80 rfl rfl rfl ?_
  obtain ⟨x81, h81, hf⟩ := mm_bd_e hf
  refine xr_getR 84 C cf_X10_69 rfl h81 dX10_replay_81 rfl ?_
  refine xr_iload 86 4 C dX10_replay_84 rfl rfl ?_
  obtain ⟨x86, h86, hf⟩ := mm_bd_e hf
  refine xr_aldI 87 C h86 dX10_replay_86 rfl ?_
  refine xr_goto 91 C dX10_replay_87 (by decide) ?_
  exact w_X10_replay_91 C hf ko
noncomputable def f_X10_replay_90 (M : mm_M) (v0 : Option Nat) (v1 : Int32) (v2 : Int32) (v3 : Int64) (v5 : Int32) (s0 : Option Nat) : Option ((mm_M × Int64 × Int32) ⊕ (Int64 × mm_M)) :=
  f_X10_replay_91 M v0 v1 v2 v3 v5 s0 v2
set_option maxRecDepth 20000 in
theorem w_X10_replay_90 {g : mm_c} (C : mm_ok g cX10_replay "LessonCardsModel" (some .long) "replay" 7 3 76 0 0) {M : mm_M} {v0 : Option Nat} {v1 : Int32} {v2 : Int32} {v3 : Int64} {v5 : Int32} {s0 : Option Nat} {res : (mm_M × Int64 × Int32) ⊕ (Int64 × mm_M)} (hf : f_X10_replay_90 M v0 v1 v2 v3 v5 s0 = some res) (ko : (mm_o (h_X10_replay_9 g v0 v1 v2) (fun z => mm_q g 0 0 (some (mm_j z.1)) z.2)) res) : mm_X g 0 0 M 90 [(0, mm_r v0), (1, mm_i v1), (2, mm_i v2), (3, mm_j v3), (5, mm_i v5)] [mm_r s0] := by
  unfold f_X10_replay_90 at hf
  refine xr_iload_n 91 2 C dX10_replay_90 rfl rfl rfl ?_
  exact w_X10_replay_91 C hf ko
noncomputable def f_X10_replay_75 (M : mm_M) (v0 : Option Nat) (v1 : Int32) (v2 : Int32) (v3 : Int64) (v5 : Int32) : Option ((mm_M × Int64 × Int32) ⊕ (Int64 × mm_M)) :=
  if 0 ≤ v2 then f_X10_replay_90 M v0 v1 v2 v3 v5 v0 else f_X10_replay_80 M v0 v1 v2 v3 v5 v0
set_option maxRecDepth 20000 in
theorem w_X10_replay_75 {g : mm_c} (C : mm_ok g cX10_replay "LessonCardsModel" (some .long) "replay" 7 3 76 0 0) {M : mm_M} {v0 : Option Nat} {v1 : Int32} {v2 : Int32} {v3 : Int64} {v5 : Int32} {res : (mm_M × Int64 × Int32) ⊕ (Int64 × mm_M)} (hf : f_X10_replay_75 M v0 v1 v2 v3 v5 = some res) (ko : (mm_o (h_X10_replay_9 g v0 v1 v2) (fun z => mm_q g 0 0 (some (mm_j z.1)) z.2)) res) : mm_X g 0 0 M 75 [(0, mm_r v0), (1, mm_i v1), (2, mm_i v2), (3, mm_j v3), (5, mm_i v5)] [] := by
  unfold f_X10_replay_75 at hf
  refine xr_aload_n 76 0 C dX10_replay_75 rfl rfl rfl ?_
  refine xr_iload_n 77 2 C dX10_replay_76 rfl rfl rfl ?_
  refine xr_if_ge 90 80 C dX10_replay_77 (by decide) rfl (fun hc => ?_) (fun hc => ?_)
  · replace hf := (if_pos hc).symm.trans hf
    exact w_X10_replay_90 C hf ko
  · replace hf := (if_neg hc).symm.trans hf
    exact w_X10_replay_80 C hf ko
noncomputable def f_X10_replay_73 (M : mm_M) (v0 : Option Nat) (v1 : Int32) (v2 : Int32) (v5 : Int32) (s0 : Int64) (s1 : Int64) : Option ((mm_M × Int64 × Int32) ⊕ (Int64 × mm_M)) :=
  f_X10_replay_75 M v0 v1 v2 (s0 + s1) v5
set_option maxRecDepth 20000 in
theorem w_X10_replay_73 {g : mm_c} (C : mm_ok g cX10_replay "LessonCardsModel" (some .long) "replay" 7 3 76 0 0) {M : mm_M} {v0 : Option Nat} {v1 : Int32} {v2 : Int32} {v5 : Int32} {s0 : Int64} {s1 : Int64} {res : (mm_M × Int64 × Int32) ⊕ (Int64 × mm_M)} (hf : f_X10_replay_73 M v0 v1 v2 v5 s0 s1 = some res) (ko : (mm_o (h_X10_replay_9 g v0 v1 v2) (fun z => mm_q g 0 0 (some (mm_j z.1)) z.2)) res) : mm_X g 0 0 M 73 [(0, mm_r v0), (1, mm_i v1), (2, mm_i v2), (5, mm_i v5)] [mm_j s1, mm_j s0] := by
  unfold f_X10_replay_73 at hf
  refine xr_ladd 74 C dX10_replay_73 rfl ?_
  refine xr_lstore_n 75 C dX10_replay_74 rfl (by decide) rfl [(3, mm_j (s0 + s1)), (0, mm_r v0), (1, mm_i v1), (2, mm_i v2), (5, mm_i v5)] rfl ?_
  refine xr_sub [1, 2, 3, 0, 4] (lv2 := [(0, mm_r v0), (1, mm_i v1), (2, mm_i v2), (3, mm_j (s0 + s1)), (5, mm_i v5)]) rfl ?_
  exact w_X10_replay_75 C hf ko
noncomputable def f_X10_replay_60 (M : mm_M) (v0 : Option Nat) (v1 : Int32) (v2 : Int32) (v5 : Int32) (v6 : Int32) (s0 : Int64) : Option ((mm_M × Int64 × Int32) ⊕ (Int64 × mm_M)) :=
  f_X10_replay_73 M v0 v1 v2 v5 s0 (v6.toInt64)
set_option maxRecDepth 20000 in
theorem w_X10_replay_60 {g : mm_c} (C : mm_ok g cX10_replay "LessonCardsModel" (some .long) "replay" 7 3 76 0 0) {M : mm_M} {v0 : Option Nat} {v1 : Int32} {v2 : Int32} {v5 : Int32} {v6 : Int32} {s0 : Int64} {res : (mm_M × Int64 × Int32) ⊕ (Int64 × mm_M)} (hf : f_X10_replay_60 M v0 v1 v2 v5 v6 s0 = some res) (ko : (mm_o (h_X10_replay_9 g v0 v1 v2) (fun z => mm_q g 0 0 (some (mm_j z.1)) z.2)) res) : mm_X g 0 0 M 60 [(0, mm_r v0), (1, mm_i v1), (2, mm_i v2), (5, mm_i v5), (6, mm_i v6)] [mm_j s0] := by
  unfold f_X10_replay_60 at hf
  refine xr_iload 62 4 C dX10_replay_60 rfl rfl ?_
  refine xr_i2l 63 C dX10_replay_62 rfl ?_
  refine xr_goto 73 C dX10_replay_63 (by decide) ?_
  refine xr_sub [0, 1, 2, 3] (lv2 := [(0, mm_r v0), (1, mm_i v1), (2, mm_i v2), (5, mm_i v5)]) rfl ?_
  exact w_X10_replay_73 C hf ko
noncomputable def f_X10_replay_66 (M : mm_M) (v0 : Option Nat) (v1 : Int32) (v2 : Int32) (v5 : Int32) (v6 : Int32) (s0 : Int64) : Option ((mm_M × Int64 × Int32) ⊕ (Int64 × mm_M)) :=
  f_X10_replay_73 M v0 v1 v2 v5 s0 (((1000 - v6)).toInt64)
set_option maxRecDepth 20000 in
theorem w_X10_replay_66 {g : mm_c} (C : mm_ok g cX10_replay "LessonCardsModel" (some .long) "replay" 7 3 76 0 0) {M : mm_M} {v0 : Option Nat} {v1 : Int32} {v2 : Int32} {v5 : Int32} {v6 : Int32} {s0 : Int64} {res : (mm_M × Int64 × Int32) ⊕ (Int64 × mm_M)} (hf : f_X10_replay_66 M v0 v1 v2 v5 v6 s0 = some res) (ko : (mm_o (h_X10_replay_9 g v0 v1 v2) (fun z => mm_q g 0 0 (some (mm_j z.1)) z.2)) res) : mm_X g 0 0 M 66 [(0, mm_r v0), (1, mm_i v1), (2, mm_i v2), (5, mm_i v5), (6, mm_i v6)] [mm_j s0] := by
  unfold f_X10_replay_66 at hf
  refine xr_sipush 69 C (v := 1000) dX10_replay_66 (by decide) rfl ?_
  refine xr_iload 71 4 C dX10_replay_69 rfl rfl ?_
  refine xr_isub 72 C dX10_replay_71 rfl ?_
  refine xr_i2l 73 C dX10_replay_72 rfl ?_
  refine xr_sub [0, 1, 2, 3] (lv2 := [(0, mm_r v0), (1, mm_i v1), (2, mm_i v2), (5, mm_i v5)]) rfl ?_
  exact w_X10_replay_73 C hf ko
noncomputable def f_X10_replay_36 (M : mm_M) (v0 : Option Nat) (v1 : Int32) (v2 : Int32) (v3 : Int64) (v5 : Int32) : Option ((mm_M × Int64 × Int32) ⊕ (Int64 × mm_M)) :=
  (mm_fR M v0 11 19).bind fun x38 =>
  (mm_aI M x38 12 v5).bind fun x43 =>
  (mm_rc M v0 11).bind fun u44 =>
  (f_X10_chance M v0 x43).bind fun x44 =>
  (mm_fR M v0 11 20).bind fun x51 =>
  (mm_aI M x51 12 v5).bind fun x56 =>
  if x56 = 0 then f_X10_replay_60 M v0 v1 v2 v5 x44 v3 else f_X10_replay_66 M v0 v1 v2 v5 x44 v3
set_option maxRecDepth 20000 in
theorem w_X10_replay_36 {g : mm_c} (C : mm_ok g cX10_replay "LessonCardsModel" (some .long) "replay" 7 3 76 0 0) {M : mm_M} {v0 : Option Nat} {v1 : Int32} {v2 : Int32} {v3 : Int64} {v5 : Int32} {res : (mm_M × Int64 × Int32) ⊕ (Int64 × mm_M)} (hf : f_X10_replay_36 M v0 v1 v2 v3 v5 = some res) (ko : (mm_o (h_X10_replay_9 g v0 v1 v2) (fun z => mm_q g 0 0 (some (mm_j z.1)) z.2)) res) : mm_X g 0 0 M 36 [(0, mm_r v0), (1, mm_i v1), (2, mm_i v2), (3, mm_j v3), (5, mm_i v5)] [] := by
  unfold f_X10_replay_36 at hf
  refine xr_aload_n 37 0 C dX10_replay_36 rfl rfl rfl ?_
  refine xr_aload_n 38 0 C dX10_replay_37 rfl rfl rfl ?_
  obtain ⟨x38, h38, hf⟩ := mm_bd_e hf
  refine xr_getR 41 C cf_X10_63 rfl h38 dX10_replay_38 rfl ?_
  refine xr_iload 43 4 C dX10_replay_41 rfl rfl ?_
  obtain ⟨x43, h43, hf⟩ := mm_bd_e hf
  refine xr_aldI 44 C h43 dX10_replay_43 rfl ?_
  obtain ⟨u44, g44, hf⟩ := mm_bd_e hf
  obtain ⟨x44, h44, hf⟩ := mm_bd_e hf
  refine xr_callV 47 C [mm_i x43] cm_X10_162 (fun l G cy => c_X10_chance l G cy h44) g44 rfl rfl ⟨⟨Nat.le_of_ble_eq_true rfl, Nat.le_of_ble_eq_true rfl⟩, (Nat.le_of_ble_eq_true rfl), (Nat.le_of_ble_eq_true rfl)⟩ (Nat.le_of_ble_eq_true rfl) dX10_replay_44 rfl ?_
  refine xr_istore 49 C dX10_replay_47 (by decide) rfl [(6, mm_i x44), (0, mm_r v0), (1, mm_i v1), (2, mm_i v2), (3, mm_j v3), (5, mm_i v5)] rfl ?_
  refine xr_lload_n 50 4 C dX10_replay_49 rfl rfl rfl ?_
  refine xr_aload_n 51 1 C dX10_replay_50 rfl rfl rfl ?_
  obtain ⟨x51, h51, hf⟩ := mm_bd_e hf
  refine xr_getR 54 C cf_X10_66 rfl h51 dX10_replay_51 rfl ?_
  refine xr_iload 56 5 C dX10_replay_54 rfl rfl ?_
  obtain ⟨x56, h56, hf⟩ := mm_bd_e hf
  refine xr_aldI 57 C h56 dX10_replay_56 rfl ?_
  refine xr_if_ne 66 60 C dX10_replay_57 (by decide) rfl (fun hc => ?_) (fun hc => ?_)
  · replace hf := (if_neg hc).symm.trans hf
    refine xr_sub [1, 2, 3, 5, 0] (lv2 := [(0, mm_r v0), (1, mm_i v1), (2, mm_i v2), (5, mm_i v5), (6, mm_i x44)]) rfl ?_
    exact w_X10_replay_66 C hf ko
  · replace hf := (if_pos hc).symm.trans hf
    refine xr_sub [1, 2, 3, 5, 0] (lv2 := [(0, mm_r v0), (1, mm_i v1), (2, mm_i v2), (5, mm_i v5), (6, mm_i x44)]) rfl ?_
    exact w_X10_replay_60 C hf ko
noncomputable def f_X10_replay_29 (M : mm_M) (v0 : Option Nat) (v1 : Int32) (v2 : Int32) (v3 : Int64) (v5 : Int32) : Option ((mm_M × Int64 × Int32) ⊕ (Int64 × mm_M)) :=
  (mm_fI M v0 11 29).bind fun x30 =>
  if x30 ≤ 0 then f_X10_replay_75 M v0 v1 v2 v3 v5 else f_X10_replay_36 M v0 v1 v2 v3 v5
set_option maxRecDepth 20000 in
theorem w_X10_replay_29 {g : mm_c} (C : mm_ok g cX10_replay "LessonCardsModel" (some .long) "replay" 7 3 76 0 0) {M : mm_M} {v0 : Option Nat} {v1 : Int32} {v2 : Int32} {v3 : Int64} {v5 : Int32} {res : (mm_M × Int64 × Int32) ⊕ (Int64 × mm_M)} (hf : f_X10_replay_29 M v0 v1 v2 v3 v5 = some res) (ko : (mm_o (h_X10_replay_9 g v0 v1 v2) (fun z => mm_q g 0 0 (some (mm_j z.1)) z.2)) res) : mm_X g 0 0 M 29 [(0, mm_r v0), (1, mm_i v1), (2, mm_i v2), (3, mm_j v3), (5, mm_i v5)] [] := by
  unfold f_X10_replay_29 at hf
  refine xr_aload_n 30 0 C dX10_replay_29 rfl rfl rfl ?_
  obtain ⟨x30, h30, hf⟩ := mm_bd_e hf
  refine xr_getI 33 C cf_X10_135 rfl h30 dX10_replay_30 rfl ?_
  refine xr_if_le 75 36 C dX10_replay_33 (by decide) rfl (fun hc => ?_) (fun hc => ?_)
  · replace hf := (if_pos hc).symm.trans hf
    exact w_X10_replay_75 C hf ko
  · replace hf := (if_neg hc).symm.trans hf
    exact w_X10_replay_36 C hf ko
noncomputable def f_X10_replay_18 (M : mm_M) (v0 : Option Nat) (v1 : Int32) (v2 : Int32) (v3 : Int64) (v5 : Int32) : Option ((mm_M × Int64 × Int32) ⊕ (Int64 × mm_M)) :=
  (mm_fR M v0 11 18).bind fun x19 =>
  (mm_aI M x19 12 v5).bind fun x24 =>
  if x24 = v1 then f_X10_replay_29 M v0 v1 v2 v3 v5 else f_X10_replay_134 M v0 v1 v2 v3 v5
set_option maxRecDepth 20000 in
theorem w_X10_replay_18 {g : mm_c} (C : mm_ok g cX10_replay "LessonCardsModel" (some .long) "replay" 7 3 76 0 0) {M : mm_M} {v0 : Option Nat} {v1 : Int32} {v2 : Int32} {v3 : Int64} {v5 : Int32} {res : (mm_M × Int64 × Int32) ⊕ (Int64 × mm_M)} (hf : f_X10_replay_18 M v0 v1 v2 v3 v5 = some res) (ko : (mm_o (h_X10_replay_9 g v0 v1 v2) (fun z => mm_q g 0 0 (some (mm_j z.1)) z.2)) res) : mm_X g 0 0 M 18 [(0, mm_r v0), (1, mm_i v1), (2, mm_i v2), (3, mm_j v3), (5, mm_i v5)] [] := by
  unfold f_X10_replay_18 at hf
  refine xr_aload_n 19 0 C dX10_replay_18 rfl rfl rfl ?_
  obtain ⟨x19, h19, hf⟩ := mm_bd_e hf
  refine xr_getR 22 C cf_X10_60 rfl h19 dX10_replay_19 rfl ?_
  refine xr_iload 24 4 C dX10_replay_22 rfl rfl ?_
  obtain ⟨x24, h24, hf⟩ := mm_bd_e hf
  refine xr_aldI 25 C h24 dX10_replay_24 rfl ?_
  refine xr_iload_n 26 1 C dX10_replay_25 rfl rfl rfl ?_
  refine xr_icmp_ne 134 29 C dX10_replay_26 (by decide) rfl (fun hc => ?_) (fun hc => ?_)
  · replace hf := (if_neg hc).symm.trans hf
    exact w_X10_replay_134 C hf ko
  · replace hf := (if_pos hc).symm.trans hf
    exact w_X10_replay_29 C hf ko
noncomputable def f_X10_replay_140 (M : mm_M) (v3 : Int64) : Option (Int64 × mm_M) :=
  some (v3, M)
set_option maxRecDepth 20000 in
theorem w_X10_replay_140 {g : mm_c} (C : mm_ok g cX10_replay "LessonCardsModel" (some .long) "replay" 7 3 76 0 0) {M : mm_M} {v3 : Int64} {res : Int64 × mm_M} (hf : f_X10_replay_140 M v3 = some res) (ko : (fun z => mm_q g 0 0 (some (mm_j z.1)) z.2) res) : mm_X g 0 0 M 140 [(3, mm_j v3)] [] := by
  unfold f_X10_replay_140 at hf
  refine xr_lload_n 141 0 C dX10_replay_140 rfl rfl rfl ?_
  obtain rfl := Option.some.inj hf
  exact xr_lret C ko ⟨(Nat.le_of_ble_eq_true rfl), (Nat.le_of_ble_eq_true rfl)⟩ dX10_replay_141
noncomputable def f_X10_replay_9 (M : mm_M) (v0 : Option Nat) (v1 : Int32) (v2 : Int32) (v3 : Int64) (v5 : Int32) : Option ((mm_M × Int64 × Int32) ⊕ (Int64 × mm_M)) :=
  (mm_fI M v0 11 28).bind fun x12 =>
  if x12 ≤ v5 then mm_mp (f_X10_replay_140 M v3) else f_X10_replay_18 M v0 v1 v2 v3 v5
set_option maxRecDepth 20000 in
theorem w_X10_replay_9 {g : mm_c} (C : mm_ok g cX10_replay "LessonCardsModel" (some .long) "replay" 7 3 76 0 0) {M : mm_M} {v0 : Option Nat} {v1 : Int32} {v2 : Int32} {v3 : Int64} {v5 : Int32} {res : (mm_M × Int64 × Int32) ⊕ (Int64 × mm_M)} (hf : f_X10_replay_9 M v0 v1 v2 v3 v5 = some res) (ko : (mm_o (h_X10_replay_9 g v0 v1 v2) (fun z => mm_q g 0 0 (some (mm_j z.1)) z.2)) res) : mm_X g 0 0 M 9 [(0, mm_r v0), (1, mm_i v1), (2, mm_i v2), (3, mm_j v3), (5, mm_i v5)] [] := by
  unfold f_X10_replay_9 at hf
  refine xr_iload 11 4 C dX10_replay_9 rfl rfl ?_
  refine xr_aload_n 12 0 C dX10_replay_11 rfl rfl rfl ?_
  obtain ⟨x12, h12, hf⟩ := mm_bd_e hf
  refine xr_getI 15 C cf_X10_207 rfl h12 dX10_replay_12 rfl ?_
  refine xr_icmp_ge 140 18 C dX10_replay_15 (by decide) rfl (fun hc => ?_) (fun hc => ?_)
  · replace hf := (if_pos hc).symm.trans hf
    refine xr_sub [3] (lv2 := [(3, mm_j v3)]) rfl ?_
    obtain ⟨z, hf2, rfl⟩ := mm_mp_e hf
    clear hf
    have hf := hf2
    clear hf2
    exact w_X10_replay_140 C hf ko
  · replace hf := (if_neg hc).symm.trans hf
    exact w_X10_replay_18 C hf ko
noncomputable def f_X10_replay_9w (M : mm_M) (v0 : Option Nat) (v1 : Int32) (v2 : Int32) (v3 : Int64) (v5 : Int32) : Option (Int64 × mm_M) := mm_w (fun x => f_X10_replay_9 x.1 v0 v1 v2 x.2.1 x.2.2) (M, v3, v5)
theorem l_X10_replay_9 {g : mm_c} (C : mm_ok g cX10_replay "LessonCardsModel" (some .long) "replay" 7 3 76 0 0) {M : mm_M} {v0 : Option Nat} {v1 : Int32} {v2 : Int32} {v3 : Int64} {v5 : Int32} {res : Int64 × mm_M} (hf : f_X10_replay_9w M v0 v1 v2 v3 v5 = some res) (ko : (fun z => mm_q g 0 0 (some (mm_j z.1)) z.2) res) : mm_X g 0 0 M 9 [(0, mm_r v0), (1, mm_i v1), (2, mm_i v2), (3, mm_j v3), (5, mm_i v5)] [] :=
  mm_w_W (body := fun x => f_X10_replay_9 x.1 v0 v1 v2 x.2.1 x.2.2) (Wh := h_X10_replay_9 g v0 v1 v2) (ok := (fun z => mm_q g 0 0 (some (mm_j z.1)) z.2)) (x := (M, v3, v5)) (fun x r hb ho => w_X10_replay_9 C hb ho) hf ko
noncomputable def f_X10_replay_0 (M : mm_M) (v0 : Option Nat) (v1 : Int32) (v2 : Int32) : Option (Int64 × mm_M) :=
  (mm_rc M v0 11).bind fun u1 =>
  (f_X10_begin M v0).bind fun M1 =>
  f_X10_replay_9w M1 v0 v1 v2 0 0
set_option maxRecDepth 20000 in
theorem w_X10_replay_0 {g : mm_c} (C : mm_ok g cX10_replay "LessonCardsModel" (some .long) "replay" 7 3 76 0 0) {M : mm_M} {v0 : Option Nat} {v1 : Int32} {v2 : Int32} {res : Int64 × mm_M} (hf : f_X10_replay_0 M v0 v1 v2 = some res) (ko : (fun z => mm_q g 0 0 (some (mm_j z.1)) z.2) res) : mm_X g 0 0 M 0 [(0, mm_r v0), (1, mm_i v1), (2, mm_i v2)] [] := by
  unfold f_X10_replay_0 at hf
  refine xr_aload_n 1 0 C dX10_replay_0 rfl rfl rfl ?_
  obtain ⟨u1, g1, hf⟩ := mm_bd_e hf
  obtain ⟨M1, h1, hf⟩ := mm_bd_e hf
  refine xr_callV 4 C [] cm_X10_263 (fun l G cy => c_X10_begin l G cy h1) g1 rfl rfl ⟨⟨Nat.le_of_ble_eq_true rfl, Nat.le_of_ble_eq_true rfl⟩, (Nat.le_of_ble_eq_true rfl), (Nat.le_of_ble_eq_true rfl)⟩ (Nat.le_of_ble_eq_true rfl) dX10_replay_1 rfl ?_
  refine xr_lconst 5 C (v := 0) dX10_replay_4 (by decide) rfl ?_
  refine xr_lstore_n 6 C dX10_replay_5 rfl (by decide) rfl [(3, mm_j 0), (0, mm_r v0), (1, mm_i v1), (2, mm_i v2)] rfl ?_
  refine xr_iconst 7 C (v := 0) dX10_replay_6 (by decide) rfl ?_
  refine xr_istore 9 C dX10_replay_7 (by decide) rfl [(5, mm_i 0), (3, mm_j 0), (0, mm_r v0), (1, mm_i v1), (2, mm_i v2)] rfl ?_
  refine xr_sub [2, 3, 4, 1, 0] (lv2 := [(0, mm_r v0), (1, mm_i v1), (2, mm_i v2), (3, mm_j 0), (5, mm_i 0)]) rfl ?_
  exact l_X10_replay_9 C hf ko
noncomputable def f_X10_replay (M : mm_M) (v0 : Option Nat) (v1 : Int32) (v2 : Int32) : Option (Int64 × mm_M) := f_X10_replay_0 M v0 v1 v2
theorem c_X10_replay (l : Launch) (G : va_G) (cy : Nat → ClassId) {M : mm_M} {v0 : Option Nat} {v1 : Int32} {v2 : Int32} {r : Int64} {M1 : mm_M} (hf : f_X10_replay M v0 v1 v2 = some (r, M1)) : mm_Met l yX10_replay cX10_replay 7 (some .long) 3 76 0 0 G cy [mm_r v0, mm_i v1, mm_i v2] M (some (mm_j r)) M1 :=
  mm_enter (by decide) (Nat.le_of_ble_eq_true rfl) (fun p e R s m args below meth c Q C hq => xr_sub [0, 1, 2] (lv2 := [(0, mm_r v0), (1, mm_i v1), (2, mm_i v2)]) rfl (w_X10_replay_0 C hf hq))
def h_X10_surpriseOf_5 (g : mm_c) (v0 : Option Nat) (v1 : Int32) (v2 : Int32) : (mm_M × Int64 × Int32) → Prop := fun x => mm_X g 0 0 x.1 5 [(0, mm_r v0), (1, mm_i v1), (2, mm_i v2), (3, mm_j x.2.1), (5, mm_i x.2.2)] []
noncomputable def f_X10_surpriseOf_13 (M : mm_M) (v0 : Option Nat) (v1 : Int32) (v2 : Int32) (v3 : Int64) (v5 : Int32) : Option ((mm_M × Int64 × Int32) ⊕ (Int64 × mm_M)) :=
  (mm_rc M v0 11).bind fun u24 =>
  mm_b2 (f_X10_replay M v0 ((v1 * 480) + v5) v2) fun x24 M24 =>
  some (.inl (M24, (v3 + x24), (v5 + 1)))
set_option maxRecDepth 20000 in
theorem w_X10_surpriseOf_13 {g : mm_c} (C : mm_ok g cX10_surpriseOf "LessonCardsModel" (some .long) "surpriseOf" 6 4 102 0 0) {M : mm_M} {v0 : Option Nat} {v1 : Int32} {v2 : Int32} {v3 : Int64} {v5 : Int32} {res : (mm_M × Int64 × Int32) ⊕ (Int64 × mm_M)} (hf : f_X10_surpriseOf_13 M v0 v1 v2 v3 v5 = some res) (ko : (mm_o (h_X10_surpriseOf_5 g v0 v1 v2) (fun z => mm_q g 0 0 (some (mm_j z.1)) z.2)) res) : mm_X g 0 0 M 13 [(0, mm_r v0), (1, mm_i v1), (2, mm_i v2), (3, mm_j v3), (5, mm_i v5)] [] := by
  unfold f_X10_surpriseOf_13 at hf
  refine xr_lload_n 14 3 C dX10_surpriseOf_13 rfl rfl rfl ?_
  refine xr_aload_n 15 0 C dX10_surpriseOf_14 rfl rfl rfl ?_
  refine xr_iload_n 16 1 C dX10_surpriseOf_15 rfl rfl rfl ?_
  refine xr_sipush 19 C (v := 480) dX10_surpriseOf_16 (by decide) rfl ?_
  refine xr_imul 20 C dX10_surpriseOf_19 rfl ?_
  refine xr_iload 22 4 C dX10_surpriseOf_20 rfl rfl ?_
  refine xr_iadd 23 C dX10_surpriseOf_22 rfl ?_
  refine xr_iload_n 24 2 C dX10_surpriseOf_23 rfl rfl rfl ?_
  obtain ⟨u24, g24, hf⟩ := mm_bd_e hf
  obtain ⟨x24, M24, h24, hf⟩ := mm_b2_e hf
  refine xr_callV 27 C [mm_i ((v1 * 480) + v5), mm_i v2] cm_X10_266 (fun l G cy => c_X10_replay l G cy h24) g24 rfl rfl ⟨⟨Nat.le_of_ble_eq_true rfl, Nat.le_of_ble_eq_true rfl⟩, (Nat.le_of_ble_eq_true rfl), (Nat.le_of_ble_eq_true rfl)⟩ (Nat.le_of_ble_eq_true rfl) dX10_surpriseOf_24 rfl ?_
  refine xr_ladd 28 C dX10_surpriseOf_27 rfl ?_
  refine xr_lstore_n 29 C dX10_surpriseOf_28 rfl (by decide) rfl [(3, mm_j (v3 + x24)), (0, mm_r v0), (1, mm_i v1), (2, mm_i v2), (5, mm_i v5)] rfl ?_
  refine xr_iinc 32 4 C dX10_surpriseOf_29 rfl (by decide) (v := 1) (by decide) rfl [(5, mm_i (v5 + 1)), (3, mm_j (v3 + x24)), (0, mm_r v0), (1, mm_i v1), (2, mm_i v2)] rfl ?_
  refine xr_goto 5 C dX10_surpriseOf_32 (by decide) ?_
  refine xr_sub [2, 3, 4, 1, 0] (lv2 := [(0, mm_r v0), (1, mm_i v1), (2, mm_i v2), (3, mm_j (v3 + x24)), (5, mm_i (v5 + 1))]) rfl ?_
  obtain rfl := Option.some.inj hf
  exact ko
noncomputable def f_X10_surpriseOf_35 (M : mm_M) (v3 : Int64) : Option (Int64 × mm_M) :=
  some (v3, M)
set_option maxRecDepth 20000 in
theorem w_X10_surpriseOf_35 {g : mm_c} (C : mm_ok g cX10_surpriseOf "LessonCardsModel" (some .long) "surpriseOf" 6 4 102 0 0) {M : mm_M} {v3 : Int64} {res : Int64 × mm_M} (hf : f_X10_surpriseOf_35 M v3 = some res) (ko : (fun z => mm_q g 0 0 (some (mm_j z.1)) z.2) res) : mm_X g 0 0 M 35 [(3, mm_j v3)] [] := by
  unfold f_X10_surpriseOf_35 at hf
  refine xr_lload_n 36 0 C dX10_surpriseOf_35 rfl rfl rfl ?_
  obtain rfl := Option.some.inj hf
  exact xr_lret C ko ⟨(Nat.le_of_ble_eq_true rfl), (Nat.le_of_ble_eq_true rfl)⟩ dX10_surpriseOf_36
noncomputable def f_X10_surpriseOf_5 (M : mm_M) (v0 : Option Nat) (v1 : Int32) (v2 : Int32) (v3 : Int64) (v5 : Int32) : Option ((mm_M × Int64 × Int32) ⊕ (Int64 × mm_M)) :=
  if 480 ≤ v5 then mm_mp (f_X10_surpriseOf_35 M v3) else f_X10_surpriseOf_13 M v0 v1 v2 v3 v5
set_option maxRecDepth 20000 in
theorem w_X10_surpriseOf_5 {g : mm_c} (C : mm_ok g cX10_surpriseOf "LessonCardsModel" (some .long) "surpriseOf" 6 4 102 0 0) {M : mm_M} {v0 : Option Nat} {v1 : Int32} {v2 : Int32} {v3 : Int64} {v5 : Int32} {res : (mm_M × Int64 × Int32) ⊕ (Int64 × mm_M)} (hf : f_X10_surpriseOf_5 M v0 v1 v2 v3 v5 = some res) (ko : (mm_o (h_X10_surpriseOf_5 g v0 v1 v2) (fun z => mm_q g 0 0 (some (mm_j z.1)) z.2)) res) : mm_X g 0 0 M 5 [(0, mm_r v0), (1, mm_i v1), (2, mm_i v2), (3, mm_j v3), (5, mm_i v5)] [] := by
  unfold f_X10_surpriseOf_5 at hf
  refine xr_iload 7 4 C dX10_surpriseOf_5 rfl rfl ?_
  refine xr_sipush 10 C (v := 480) dX10_surpriseOf_7 (by decide) rfl ?_
  refine xr_icmp_ge 35 13 C dX10_surpriseOf_10 (by decide) rfl (fun hc => ?_) (fun hc => ?_)
  · replace hf := (if_pos hc).symm.trans hf
    refine xr_sub [3] (lv2 := [(3, mm_j v3)]) rfl ?_
    obtain ⟨z, hf2, rfl⟩ := mm_mp_e hf
    clear hf
    have hf := hf2
    clear hf2
    exact w_X10_surpriseOf_35 C hf ko
  · replace hf := (if_neg hc).symm.trans hf
    exact w_X10_surpriseOf_13 C hf ko
noncomputable def f_X10_surpriseOf_5w (M : mm_M) (v0 : Option Nat) (v1 : Int32) (v2 : Int32) (v3 : Int64) (v5 : Int32) : Option (Int64 × mm_M) := mm_w (fun x => f_X10_surpriseOf_5 x.1 v0 v1 v2 x.2.1 x.2.2) (M, v3, v5)
theorem l_X10_surpriseOf_5 {g : mm_c} (C : mm_ok g cX10_surpriseOf "LessonCardsModel" (some .long) "surpriseOf" 6 4 102 0 0) {M : mm_M} {v0 : Option Nat} {v1 : Int32} {v2 : Int32} {v3 : Int64} {v5 : Int32} {res : Int64 × mm_M} (hf : f_X10_surpriseOf_5w M v0 v1 v2 v3 v5 = some res) (ko : (fun z => mm_q g 0 0 (some (mm_j z.1)) z.2) res) : mm_X g 0 0 M 5 [(0, mm_r v0), (1, mm_i v1), (2, mm_i v2), (3, mm_j v3), (5, mm_i v5)] [] :=
  mm_w_W (body := fun x => f_X10_surpriseOf_5 x.1 v0 v1 v2 x.2.1 x.2.2) (Wh := h_X10_surpriseOf_5 g v0 v1 v2) (ok := (fun z => mm_q g 0 0 (some (mm_j z.1)) z.2)) (x := (M, v3, v5)) (fun x r hb ho => w_X10_surpriseOf_5 C hb ho) hf ko
noncomputable def f_X10_surpriseOf_0 (M : mm_M) (v0 : Option Nat) (v1 : Int32) (v2 : Int32) : Option (Int64 × mm_M) :=
  f_X10_surpriseOf_5w M v0 v1 v2 0 0
set_option maxRecDepth 20000 in
theorem w_X10_surpriseOf_0 {g : mm_c} (C : mm_ok g cX10_surpriseOf "LessonCardsModel" (some .long) "surpriseOf" 6 4 102 0 0) {M : mm_M} {v0 : Option Nat} {v1 : Int32} {v2 : Int32} {res : Int64 × mm_M} (hf : f_X10_surpriseOf_0 M v0 v1 v2 = some res) (ko : (fun z => mm_q g 0 0 (some (mm_j z.1)) z.2) res) : mm_X g 0 0 M 0 [(0, mm_r v0), (1, mm_i v1), (2, mm_i v2)] [] := by
  unfold f_X10_surpriseOf_0 at hf
  refine xr_lconst 1 C (v := 0) dX10_surpriseOf_0 (by decide) rfl ?_
  refine xr_lstore_n 2 C dX10_surpriseOf_1 rfl (by decide) rfl [(3, mm_j 0), (0, mm_r v0), (1, mm_i v1), (2, mm_i v2)] rfl ?_
  refine xr_iconst 3 C (v := 0) dX10_surpriseOf_2 (by decide) rfl ?_
  refine xr_istore 5 C dX10_surpriseOf_3 (by decide) rfl [(5, mm_i 0), (3, mm_j 0), (0, mm_r v0), (1, mm_i v1), (2, mm_i v2)] rfl ?_
  refine xr_sub [2, 3, 4, 1, 0] (lv2 := [(0, mm_r v0), (1, mm_i v1), (2, mm_i v2), (3, mm_j 0), (5, mm_i 0)]) rfl ?_
  exact l_X10_surpriseOf_5 C hf ko
noncomputable def f_X10_surpriseOf (M : mm_M) (v0 : Option Nat) (v1 : Int32) (v2 : Int32) : Option (Int64 × mm_M) := f_X10_surpriseOf_0 M v0 v1 v2
theorem c_X10_surpriseOf (l : Launch) (G : va_G) (cy : Nat → ClassId) {M : mm_M} {v0 : Option Nat} {v1 : Int32} {v2 : Int32} {r : Int64} {M1 : mm_M} (hf : f_X10_surpriseOf M v0 v1 v2 = some (r, M1)) : mm_Met l yX10_surpriseOf cX10_surpriseOf 6 (some .long) 4 102 0 0 G cy [mm_r v0, mm_i v1, mm_i v2] M (some (mm_j r)) M1 :=
  mm_enter (by decide) (Nat.le_of_ble_eq_true rfl) (fun p e R s m args below meth c Q C hq => xr_sub [0, 1, 2] (lv2 := [(0, mm_r v0), (1, mm_i v1), (2, mm_i v2)]) rfl (w_X10_surpriseOf_0 C hf hq))
noncomputable def f_X10_surprise_28 (M : mm_M) (s0 : Int64) : Option (Int64 × mm_M) :=
  some (s0, M)
set_option maxRecDepth 20000 in
theorem w_X10_surprise_28 {g : mm_c} (C : mm_ok g cX10_surprise "LessonCardsModel" (some .long) "surprise" 3 5 127 0 0) {M : mm_M} {s0 : Int64} {res : Int64 × mm_M} (hf : f_X10_surprise_28 M s0 = some res) (ko : (fun z => mm_q g 0 0 (some (mm_j z.1)) z.2) res) : mm_X g 0 0 M 28 [] [mm_j s0] := by
  unfold f_X10_surprise_28 at hf
  obtain rfl := Option.some.inj hf
  exact xr_lret C ko ⟨(Nat.le_of_ble_eq_true rfl), (Nat.le_of_ble_eq_true rfl)⟩ dX10_surprise_28
noncomputable def f_X10_surprise_16 (M : mm_M) (v0 : Option Nat) (v1 : Int32) (v2 : Int32) : Option (Int64 × mm_M) :=
  (mm_rc M v0 11).bind fun u19 =>
  mm_b2 (f_X10_surpriseOf M v0 v1 v2) fun x19 M19 =>
  f_X10_surprise_28 M19 x19
set_option maxRecDepth 20000 in
theorem w_X10_surprise_16 {g : mm_c} (C : mm_ok g cX10_surprise "LessonCardsModel" (some .long) "surprise" 3 5 127 0 0) {M : mm_M} {v0 : Option Nat} {v1 : Int32} {v2 : Int32} {res : Int64 × mm_M} (hf : f_X10_surprise_16 M v0 v1 v2 = some res) (ko : (fun z => mm_q g 0 0 (some (mm_j z.1)) z.2) res) : mm_X g 0 0 M 16 [(0, mm_r v0), (1, mm_i v1), (2, mm_i v2)] [] := by
  unfold f_X10_surprise_16 at hf
  refine xr_aload_n 17 0 C dX10_surprise_16 rfl rfl rfl ?_
  refine xr_iload_n 18 1 C dX10_surprise_17 rfl rfl rfl ?_
  refine xr_iload_n 19 2 C dX10_surprise_18 rfl rfl rfl ?_
  obtain ⟨u19, g19, hf⟩ := mm_bd_e hf
  obtain ⟨x19, M19, h19, hf⟩ := mm_b2_e hf
  refine xr_callV 22 C [mm_i v1, mm_i v2] cm_X10_270 (fun l G cy => c_X10_surpriseOf l G cy h19) g19 rfl rfl ⟨⟨Nat.le_of_ble_eq_true rfl, Nat.le_of_ble_eq_true rfl⟩, (Nat.le_of_ble_eq_true rfl), (Nat.le_of_ble_eq_true rfl)⟩ (Nat.le_of_ble_eq_true rfl) dX10_surprise_19 rfl ?_
  refine xr_goto 28 C dX10_surprise_22 (by decide) ?_
  refine xr_sub [] (lv2 := []) rfl ?_
  exact w_X10_surprise_28 C hf ko
noncomputable def f_X10_surprise_25 (M : mm_M) : Option (Int64 × mm_M) :=
  f_X10_surprise_28 M (-1)
set_option maxRecDepth 20000 in
theorem w_X10_surprise_25 {g : mm_c} (C : mm_ok g cX10_surprise "LessonCardsModel" (some .long) "surprise" 3 5 127 0 0) {M : mm_M} {res : Int64 × mm_M} (hf : f_X10_surprise_25 M = some res) (ko : (fun z => mm_q g 0 0 (some (mm_j z.1)) z.2) res) : mm_X g 0 0 M 25 [] [] := by
  unfold f_X10_surprise_25 at hf
  refine xr_ldc2 28 C wd_1275 dX10_surprise_25 rfl ?_
  exact w_X10_surprise_28 C hf ko
noncomputable def f_X10_surprise_7 (M : mm_M) (v0 : Option Nat) (v1 : Int32) (v2 : Int32) : Option (Int64 × mm_M) :=
  (f_X10_within M v2 0 2).bind fun x10 =>
  if x10 = 0 then f_X10_surprise_25 M else f_X10_surprise_16 M v0 v1 v2
set_option maxRecDepth 20000 in
theorem w_X10_surprise_7 {g : mm_c} (C : mm_ok g cX10_surprise "LessonCardsModel" (some .long) "surprise" 3 5 127 0 0) {M : mm_M} {v0 : Option Nat} {v1 : Int32} {v2 : Int32} {res : Int64 × mm_M} (hf : f_X10_surprise_7 M v0 v1 v2 = some res) (ko : (fun z => mm_q g 0 0 (some (mm_j z.1)) z.2) res) : mm_X g 0 0 M 7 [(0, mm_r v0), (1, mm_i v1), (2, mm_i v2)] [] := by
  unfold f_X10_surprise_7 at hf
  refine xr_iload_n 8 2 C dX10_surprise_7 rfl rfl rfl ?_
  refine xr_iconst 9 C (v := 0) dX10_surprise_8 (by decide) rfl ?_
  refine xr_iconst 10 C (v := 2) dX10_surprise_9 (by decide) rfl ?_
  obtain ⟨x10, h10, hf⟩ := mm_bd_e hf
  refine xr_callS 13 C [mm_i v2, mm_i 0, mm_i 2] cm_X10_123 (fun l G cy => c_X10_within l G cy h10) rfl rfl ⟨⟨Nat.le_of_ble_eq_true rfl, Nat.le_of_ble_eq_true rfl⟩, (Nat.le_of_ble_eq_true rfl), (Nat.le_of_ble_eq_true rfl)⟩ (Nat.le_of_ble_eq_true rfl) dX10_surprise_10 rfl ?_
  refine xr_if_eq 25 16 C dX10_surprise_13 (by decide) rfl (fun hc => ?_) (fun hc => ?_)
  · replace hf := (if_pos hc).symm.trans hf
    refine xr_sub [] (lv2 := []) rfl ?_
    exact w_X10_surprise_25 C hf ko
  · replace hf := (if_neg hc).symm.trans hf
    exact w_X10_surprise_16 C hf ko
noncomputable def f_X10_surprise_0 (M : mm_M) (v0 : Option Nat) (v1 : Int32) (v2 : Int32) : Option (Int64 × mm_M) :=
  (f_X10_isPupil M v1).bind fun x1 =>
  if x1 = 0 then f_X10_surprise_25 M else f_X10_surprise_7 M v0 v1 v2
set_option maxRecDepth 20000 in
theorem w_X10_surprise_0 {g : mm_c} (C : mm_ok g cX10_surprise "LessonCardsModel" (some .long) "surprise" 3 5 127 0 0) {M : mm_M} {v0 : Option Nat} {v1 : Int32} {v2 : Int32} {res : Int64 × mm_M} (hf : f_X10_surprise_0 M v0 v1 v2 = some res) (ko : (fun z => mm_q g 0 0 (some (mm_j z.1)) z.2) res) : mm_X g 0 0 M 0 [(0, mm_r v0), (1, mm_i v1), (2, mm_i v2)] [] := by
  unfold f_X10_surprise_0 at hf
  refine xr_iload_n 1 1 C dX10_surprise_0 rfl rfl rfl ?_
  obtain ⟨x1, h1, hf⟩ := mm_bd_e hf
  refine xr_callS 4 C [mm_i v1] cm_X10_190 (fun l G cy => c_X10_isPupil l G cy h1) rfl rfl ⟨⟨Nat.le_of_ble_eq_true rfl, Nat.le_of_ble_eq_true rfl⟩, (Nat.le_of_ble_eq_true rfl), (Nat.le_of_ble_eq_true rfl)⟩ (Nat.le_of_ble_eq_true rfl) dX10_surprise_1 rfl ?_
  refine xr_if_eq 25 7 C dX10_surprise_4 (by decide) rfl (fun hc => ?_) (fun hc => ?_)
  · replace hf := (if_pos hc).symm.trans hf
    refine xr_sub [] (lv2 := []) rfl ?_
    exact w_X10_surprise_25 C hf ko
  · replace hf := (if_neg hc).symm.trans hf
    exact w_X10_surprise_7 C hf ko
noncomputable def f_X10_surprise (M : mm_M) (v0 : Option Nat) (v1 : Int32) (v2 : Int32) : Option (Int64 × mm_M) := f_X10_surprise_0 M v0 v1 v2
theorem c_X10_surprise (l : Launch) (G : va_G) (cy : Nat → ClassId) {M : mm_M} {v0 : Option Nat} {v1 : Int32} {v2 : Int32} {r : Int64} {M1 : mm_M} (hf : f_X10_surprise M v0 v1 v2 = some (r, M1)) : mm_Met l yX10_surprise cX10_surprise 3 (some .long) 5 127 0 0 G cy [mm_r v0, mm_i v1, mm_i v2] M (some (mm_j r)) M1 :=
  mm_enter (by decide) (Nat.le_of_ble_eq_true rfl) (fun p e R s m args below meth c Q C hq => xr_sub [0, 1, 2] (lv2 := [(0, mm_r v0), (1, mm_i v1), (2, mm_i v2)]) rfl (w_X10_surprise_0 C hf hq))
def h_X10_better_13 (g : mm_c) (v0 : Option Nat) (v1 : Int32) : (mm_M × Int32 × Int32) → Prop := fun x => mm_X g 0 0 x.1 13 [(0, mm_r v0), (1, mm_i v1), (2, mm_i x.2.1), (3, mm_i x.2.2)] []
noncomputable def f_X10_better_7 (M : mm_M) : Option (Int32 × mm_M) :=
  some ((-1), M)
set_option maxRecDepth 20000 in
theorem w_X10_better_7 {g : mm_c} (C : mm_ok g cX10_better "LessonCardsModel" (some .int) "better" 4 5 127 0 0) {M : mm_M} {res : Int32 × mm_M} (hf : f_X10_better_7 M = some res) (ko : (fun z => mm_q g 0 0 (some (mm_i z.1)) z.2) res) : mm_X g 0 0 M 7 [] [] := by
  unfold f_X10_better_7 at hf
  refine xr_iconst 8 C (v := (-1)) dX10_better_7 (by decide) rfl ?_
  obtain rfl := Option.some.inj hf
  exact xr_iret C ko ⟨(Nat.le_of_ble_eq_true rfl), (Nat.le_of_ble_eq_true rfl)⟩ dX10_better_8
noncomputable def f_X10_better_39 (M : mm_M) (v0 : Option Nat) (v1 : Int32) (v3 : Int32) (s0 : Int32) : Option ((mm_M × Int32 × Int32) ⊕ (Int32 × mm_M)) :=
  some (.inl (M, s0, (v3 + 1)))
set_option maxRecDepth 20000 in
theorem w_X10_better_39 {g : mm_c} (C : mm_ok g cX10_better "LessonCardsModel" (some .int) "better" 4 5 127 0 0) {M : mm_M} {v0 : Option Nat} {v1 : Int32} {v3 : Int32} {s0 : Int32} {res : (mm_M × Int32 × Int32) ⊕ (Int32 × mm_M)} (hf : f_X10_better_39 M v0 v1 v3 s0 = some res) (ko : (mm_o (h_X10_better_13 g v0 v1) (fun z => mm_q g 0 0 (some (mm_i z.1)) z.2)) res) : mm_X g 0 0 M 39 [(0, mm_r v0), (1, mm_i v1), (3, mm_i v3)] [mm_i s0] := by
  unfold f_X10_better_39 at hf
  refine xr_istore_n 40 C dX10_better_39 rfl (by decide) rfl [(2, mm_i s0), (0, mm_r v0), (1, mm_i v1), (3, mm_i v3)] rfl ?_
  refine xr_iinc 43 3 C dX10_better_40 rfl (by decide) (v := 1) (by decide) rfl [(3, mm_i (v3 + 1)), (2, mm_i s0), (0, mm_r v0), (1, mm_i v1)] rfl ?_
  refine xr_goto 13 C dX10_better_43 (by decide) ?_
  refine xr_sub [2, 3, 1, 0] (lv2 := [(0, mm_r v0), (1, mm_i v1), (2, mm_i s0), (3, mm_i (v3 + 1))]) rfl ?_
  obtain rfl := Option.some.inj hf
  exact ko
noncomputable def f_X10_better_34 (M : mm_M) (v0 : Option Nat) (v1 : Int32) (v3 : Int32) : Option ((mm_M × Int32 × Int32) ⊕ (Int32 × mm_M)) :=
  f_X10_better_39 M v0 v1 v3 v3
set_option maxRecDepth 20000 in
theorem w_X10_better_34 {g : mm_c} (C : mm_ok g cX10_better "LessonCardsModel" (some .int) "better" 4 5 127 0 0) {M : mm_M} {v0 : Option Nat} {v1 : Int32} {v3 : Int32} {res : (mm_M × Int32 × Int32) ⊕ (Int32 × mm_M)} (hf : f_X10_better_34 M v0 v1 v3 = some res) (ko : (mm_o (h_X10_better_13 g v0 v1) (fun z => mm_q g 0 0 (some (mm_i z.1)) z.2)) res) : mm_X g 0 0 M 34 [(0, mm_r v0), (1, mm_i v1), (3, mm_i v3)] [] := by
  unfold f_X10_better_34 at hf
  refine xr_iload_n 35 2 C dX10_better_34 rfl rfl rfl ?_
  refine xr_goto 39 C dX10_better_35 (by decide) ?_
  exact w_X10_better_39 C hf ko
noncomputable def f_X10_better_38 (M : mm_M) (v0 : Option Nat) (v1 : Int32) (v2 : Int32) (v3 : Int32) : Option ((mm_M × Int32 × Int32) ⊕ (Int32 × mm_M)) :=
  f_X10_better_39 M v0 v1 v3 v2
set_option maxRecDepth 20000 in
theorem w_X10_better_38 {g : mm_c} (C : mm_ok g cX10_better "LessonCardsModel" (some .int) "better" 4 5 127 0 0) {M : mm_M} {v0 : Option Nat} {v1 : Int32} {v2 : Int32} {v3 : Int32} {res : (mm_M × Int32 × Int32) ⊕ (Int32 × mm_M)} (hf : f_X10_better_38 M v0 v1 v2 v3 = some res) (ko : (mm_o (h_X10_better_13 g v0 v1) (fun z => mm_q g 0 0 (some (mm_i z.1)) z.2)) res) : mm_X g 0 0 M 38 [(0, mm_r v0), (1, mm_i v1), (2, mm_i v2), (3, mm_i v3)] [] := by
  unfold f_X10_better_38 at hf
  refine xr_iload_n 39 2 C dX10_better_38 rfl rfl rfl ?_
  refine xr_sub [0, 1, 3] (lv2 := [(0, mm_r v0), (1, mm_i v1), (3, mm_i v3)]) rfl ?_
  exact w_X10_better_39 C hf ko
noncomputable def f_X10_better_18 (M : mm_M) (v0 : Option Nat) (v1 : Int32) (v2 : Int32) (v3 : Int32) : Option ((mm_M × Int32 × Int32) ⊕ (Int32 × mm_M)) :=
  (mm_rc M v0 11).bind fun u21 =>
  mm_b2 (f_X10_surpriseOf M v0 v1 v3) fun x21 M21 =>
  (mm_rc M21 v0 11).bind fun u27 =>
  mm_b2 (f_X10_surpriseOf M21 v0 v1 v2) fun x27 M27 =>
  if 0 ≤ (lg_cmp x21 x27) then f_X10_better_38 M27 v0 v1 v2 v3 else f_X10_better_34 M27 v0 v1 v3
set_option maxRecDepth 20000 in
theorem w_X10_better_18 {g : mm_c} (C : mm_ok g cX10_better "LessonCardsModel" (some .int) "better" 4 5 127 0 0) {M : mm_M} {v0 : Option Nat} {v1 : Int32} {v2 : Int32} {v3 : Int32} {res : (mm_M × Int32 × Int32) ⊕ (Int32 × mm_M)} (hf : f_X10_better_18 M v0 v1 v2 v3 = some res) (ko : (mm_o (h_X10_better_13 g v0 v1) (fun z => mm_q g 0 0 (some (mm_i z.1)) z.2)) res) : mm_X g 0 0 M 18 [(0, mm_r v0), (1, mm_i v1), (2, mm_i v2), (3, mm_i v3)] [] := by
  unfold f_X10_better_18 at hf
  refine xr_aload_n 19 0 C dX10_better_18 rfl rfl rfl ?_
  refine xr_iload_n 20 1 C dX10_better_19 rfl rfl rfl ?_
  refine xr_iload_n 21 3 C dX10_better_20 rfl rfl rfl ?_
  obtain ⟨u21, g21, hf⟩ := mm_bd_e hf
  obtain ⟨x21, M21, h21, hf⟩ := mm_b2_e hf
  refine xr_callV 24 C [mm_i v1, mm_i v3] cm_X10_270 (fun l G cy => c_X10_surpriseOf l G cy h21) g21 rfl rfl ⟨⟨Nat.le_of_ble_eq_true rfl, Nat.le_of_ble_eq_true rfl⟩, (Nat.le_of_ble_eq_true rfl), (Nat.le_of_ble_eq_true rfl)⟩ (Nat.le_of_ble_eq_true rfl) dX10_better_21 rfl ?_
  refine xr_aload_n 25 0 C dX10_better_24 rfl rfl rfl ?_
  refine xr_iload_n 26 1 C dX10_better_25 rfl rfl rfl ?_
  refine xr_iload_n 27 2 C dX10_better_26 rfl rfl rfl ?_
  obtain ⟨u27, g27, hf⟩ := mm_bd_e hf
  obtain ⟨x27, M27, h27, hf⟩ := mm_b2_e hf
  refine xr_callV 30 C [mm_i v1, mm_i v2] cm_X10_270 (fun l G cy => c_X10_surpriseOf l G cy h27) g27 rfl rfl ⟨⟨Nat.le_of_ble_eq_true rfl, Nat.le_of_ble_eq_true rfl⟩, (Nat.le_of_ble_eq_true rfl), (Nat.le_of_ble_eq_true rfl)⟩ (Nat.le_of_ble_eq_true rfl) dX10_better_27 rfl ?_
  refine xr_lcmp 31 C dX10_better_30 rfl ?_
  refine xr_if_ge 38 34 C dX10_better_31 (by decide) rfl (fun hc => ?_) (fun hc => ?_)
  · replace hf := (if_pos hc).symm.trans hf
    exact w_X10_better_38 C hf ko
  · replace hf := (if_neg hc).symm.trans hf
    refine xr_sub [0, 1, 3] (lv2 := [(0, mm_r v0), (1, mm_i v1), (3, mm_i v3)]) rfl ?_
    exact w_X10_better_34 C hf ko
noncomputable def f_X10_better_46 (M : mm_M) (v2 : Int32) : Option (Int32 × mm_M) :=
  some (v2, M)
set_option maxRecDepth 20000 in
theorem w_X10_better_46 {g : mm_c} (C : mm_ok g cX10_better "LessonCardsModel" (some .int) "better" 4 5 127 0 0) {M : mm_M} {v2 : Int32} {res : Int32 × mm_M} (hf : f_X10_better_46 M v2 = some res) (ko : (fun z => mm_q g 0 0 (some (mm_i z.1)) z.2) res) : mm_X g 0 0 M 46 [(2, mm_i v2)] [] := by
  unfold f_X10_better_46 at hf
  refine xr_iload_n 47 0 C dX10_better_46 rfl rfl rfl ?_
  obtain rfl := Option.some.inj hf
  exact xr_iret C ko ⟨(Nat.le_of_ble_eq_true rfl), (Nat.le_of_ble_eq_true rfl)⟩ dX10_better_47
noncomputable def f_X10_better_13 (M : mm_M) (v0 : Option Nat) (v1 : Int32) (v2 : Int32) (v3 : Int32) : Option ((mm_M × Int32 × Int32) ⊕ (Int32 × mm_M)) :=
  if 3 ≤ v3 then mm_mp (f_X10_better_46 M v2) else f_X10_better_18 M v0 v1 v2 v3
set_option maxRecDepth 20000 in
theorem w_X10_better_13 {g : mm_c} (C : mm_ok g cX10_better "LessonCardsModel" (some .int) "better" 4 5 127 0 0) {M : mm_M} {v0 : Option Nat} {v1 : Int32} {v2 : Int32} {v3 : Int32} {res : (mm_M × Int32 × Int32) ⊕ (Int32 × mm_M)} (hf : f_X10_better_13 M v0 v1 v2 v3 = some res) (ko : (mm_o (h_X10_better_13 g v0 v1) (fun z => mm_q g 0 0 (some (mm_i z.1)) z.2)) res) : mm_X g 0 0 M 13 [(0, mm_r v0), (1, mm_i v1), (2, mm_i v2), (3, mm_i v3)] [] := by
  unfold f_X10_better_13 at hf
  refine xr_iload_n 14 3 C dX10_better_13 rfl rfl rfl ?_
  refine xr_iconst 15 C (v := 3) dX10_better_14 (by decide) rfl ?_
  refine xr_icmp_ge 46 18 C dX10_better_15 (by decide) rfl (fun hc => ?_) (fun hc => ?_)
  · replace hf := (if_pos hc).symm.trans hf
    refine xr_sub [2] (lv2 := [(2, mm_i v2)]) rfl ?_
    obtain ⟨z, hf2, rfl⟩ := mm_mp_e hf
    clear hf
    have hf := hf2
    clear hf2
    exact w_X10_better_46 C hf ko
  · replace hf := (if_neg hc).symm.trans hf
    exact w_X10_better_18 C hf ko
noncomputable def f_X10_better_13w (M : mm_M) (v0 : Option Nat) (v1 : Int32) (v2 : Int32) (v3 : Int32) : Option (Int32 × mm_M) := mm_w (fun x => f_X10_better_13 x.1 v0 v1 x.2.1 x.2.2) (M, v2, v3)
theorem l_X10_better_13 {g : mm_c} (C : mm_ok g cX10_better "LessonCardsModel" (some .int) "better" 4 5 127 0 0) {M : mm_M} {v0 : Option Nat} {v1 : Int32} {v2 : Int32} {v3 : Int32} {res : Int32 × mm_M} (hf : f_X10_better_13w M v0 v1 v2 v3 = some res) (ko : (fun z => mm_q g 0 0 (some (mm_i z.1)) z.2) res) : mm_X g 0 0 M 13 [(0, mm_r v0), (1, mm_i v1), (2, mm_i v2), (3, mm_i v3)] [] :=
  mm_w_W (body := fun x => f_X10_better_13 x.1 v0 v1 x.2.1 x.2.2) (Wh := h_X10_better_13 g v0 v1) (ok := (fun z => mm_q g 0 0 (some (mm_i z.1)) z.2)) (x := (M, v2, v3)) (fun x r hb ho => w_X10_better_13 C hb ho) hf ko
noncomputable def f_X10_better_9 (M : mm_M) (v0 : Option Nat) (v1 : Int32) : Option (Int32 × mm_M) :=
  f_X10_better_13w M v0 v1 0 1
set_option maxRecDepth 20000 in
theorem w_X10_better_9 {g : mm_c} (C : mm_ok g cX10_better "LessonCardsModel" (some .int) "better" 4 5 127 0 0) {M : mm_M} {v0 : Option Nat} {v1 : Int32} {res : Int32 × mm_M} (hf : f_X10_better_9 M v0 v1 = some res) (ko : (fun z => mm_q g 0 0 (some (mm_i z.1)) z.2) res) : mm_X g 0 0 M 9 [(0, mm_r v0), (1, mm_i v1)] [] := by
  unfold f_X10_better_9 at hf
  refine xr_iconst 10 C (v := 0) dX10_better_9 (by decide) rfl ?_
  refine xr_istore_n 11 C dX10_better_10 rfl (by decide) rfl [(2, mm_i 0), (0, mm_r v0), (1, mm_i v1)] rfl ?_
  refine xr_iconst 12 C (v := 1) dX10_better_11 (by decide) rfl ?_
  refine xr_istore_n 13 C dX10_better_12 rfl (by decide) rfl [(3, mm_i 1), (2, mm_i 0), (0, mm_r v0), (1, mm_i v1)] rfl ?_
  refine xr_sub [2, 3, 1, 0] (lv2 := [(0, mm_r v0), (1, mm_i v1), (2, mm_i 0), (3, mm_i 1)]) rfl ?_
  exact l_X10_better_13 C hf ko
noncomputable def f_X10_better_0 (M : mm_M) (v0 : Option Nat) (v1 : Int32) : Option (Int32 × mm_M) :=
  (f_X10_isPupil M v1).bind fun x1 =>
  if x1 = 0 then f_X10_better_7 M else f_X10_better_9 M v0 v1
set_option maxRecDepth 20000 in
theorem w_X10_better_0 {g : mm_c} (C : mm_ok g cX10_better "LessonCardsModel" (some .int) "better" 4 5 127 0 0) {M : mm_M} {v0 : Option Nat} {v1 : Int32} {res : Int32 × mm_M} (hf : f_X10_better_0 M v0 v1 = some res) (ko : (fun z => mm_q g 0 0 (some (mm_i z.1)) z.2) res) : mm_X g 0 0 M 0 [(0, mm_r v0), (1, mm_i v1)] [] := by
  unfold f_X10_better_0 at hf
  refine xr_iload_n 1 1 C dX10_better_0 rfl rfl rfl ?_
  obtain ⟨x1, h1, hf⟩ := mm_bd_e hf
  refine xr_callS 4 C [mm_i v1] cm_X10_190 (fun l G cy => c_X10_isPupil l G cy h1) rfl rfl ⟨⟨Nat.le_of_ble_eq_true rfl, Nat.le_of_ble_eq_true rfl⟩, (Nat.le_of_ble_eq_true rfl), (Nat.le_of_ble_eq_true rfl)⟩ (Nat.le_of_ble_eq_true rfl) dX10_better_1 rfl ?_
  refine xr_if_ne 9 7 C dX10_better_4 (by decide) rfl (fun hc => ?_) (fun hc => ?_)
  · replace hf := (if_neg hc).symm.trans hf
    exact w_X10_better_9 C hf ko
  · replace hf := (if_pos hc).symm.trans hf
    refine xr_sub [] (lv2 := []) rfl ?_
    exact w_X10_better_7 C hf ko
noncomputable def f_X10_better (M : mm_M) (v0 : Option Nat) (v1 : Int32) : Option (Int32 × mm_M) := f_X10_better_0 M v0 v1
theorem c_X10_better (l : Launch) (G : va_G) (cy : Nat → ClassId) {M : mm_M} {v0 : Option Nat} {v1 : Int32} {r : Int32} {M1 : mm_M} (hf : f_X10_better M v0 v1 = some (r, M1)) : mm_Met l yX10_better cX10_better 4 (some .int) 5 127 0 0 G cy [mm_r v0, mm_i v1] M (some (mm_i r)) M1 :=
  mm_enter (by decide) (Nat.le_of_ble_eq_true rfl) (fun p e R s m args below meth c Q C hq => xr_sub [0, 1] (lv2 := [(0, mm_r v0), (1, mm_i v1)]) rfl (w_X10_better_0 C hf hq))
noncomputable def f_X10_other_26 (M : mm_M) : Option (Int32 × mm_M) :=
  some ((-1), M)
set_option maxRecDepth 20000 in
theorem w_X10_other_26 {g : mm_c} (C : mm_ok g cX10_other "LessonCardsModel" (some .int) "other" 7 4 102 0 0) {M : mm_M} {res : Int32 × mm_M} (hf : f_X10_other_26 M = some res) (ko : (fun z => mm_q g 0 0 (some (mm_i z.1)) z.2) res) : mm_X g 0 0 M 26 [] [] := by
  unfold f_X10_other_26 at hf
  refine xr_iconst 27 C (v := (-1)) dX10_other_26 (by decide) rfl ?_
  obtain rfl := Option.some.inj hf
  exact xr_iret C ko ⟨(Nat.le_of_ble_eq_true rfl), (Nat.le_of_ble_eq_true rfl)⟩ dX10_other_27
noncomputable def f_X10_other_28 (M : mm_M) (v0 : Option Nat) (v1 : Int32) (v2 : Int32) (v3 : Int32) (v4 : Int32) : Option (Int32 × mm_M) :=
  (mm_rc M v0 11).bind fun u42 =>
  mm_b2 (f_X10_replay M v0 (((v1 * 480) + (4 * v3)) + v4) v2) fun x42 M42 =>
  (mm_fI M42 v0 11 29).bind fun x48 =>
  some (x48, M42)
set_option maxRecDepth 20000 in
theorem w_X10_other_28 {g : mm_c} (C : mm_ok g cX10_other "LessonCardsModel" (some .int) "other" 7 4 102 0 0) {M : mm_M} {v0 : Option Nat} {v1 : Int32} {v2 : Int32} {v3 : Int32} {v4 : Int32} {res : Int32 × mm_M} (hf : f_X10_other_28 M v0 v1 v2 v3 v4 = some res) (ko : (fun z => mm_q g 0 0 (some (mm_i z.1)) z.2) res) : mm_X g 0 0 M 28 [(0, mm_r v0), (1, mm_i v1), (2, mm_i v2), (3, mm_i v3), (4, mm_i v4)] [] := by
  unfold f_X10_other_28 at hf
  refine xr_aload_n 29 0 C dX10_other_28 rfl rfl rfl ?_
  refine xr_iload_n 30 1 C dX10_other_29 rfl rfl rfl ?_
  refine xr_sipush 33 C (v := 480) dX10_other_30 (by decide) rfl ?_
  refine xr_imul 34 C dX10_other_33 rfl ?_
  refine xr_iconst 35 C (v := 4) dX10_other_34 (by decide) rfl ?_
  refine xr_iload_n 36 3 C dX10_other_35 rfl rfl rfl ?_
  refine xr_imul 37 C dX10_other_36 rfl ?_
  refine xr_iadd 38 C dX10_other_37 rfl ?_
  refine xr_iload 40 4 C dX10_other_38 rfl rfl ?_
  refine xr_iadd 41 C dX10_other_40 rfl ?_
  refine xr_iload_n 42 2 C dX10_other_41 rfl rfl rfl ?_
  obtain ⟨u42, g42, hf⟩ := mm_bd_e hf
  obtain ⟨x42, M42, h42, hf⟩ := mm_b2_e hf
  refine xr_callV 45 C [mm_i (((v1 * 480) + (4 * v3)) + v4), mm_i v2] cm_X10_266 (fun l G cy => c_X10_replay l G cy h42) g42 rfl rfl ⟨⟨Nat.le_of_ble_eq_true rfl, Nat.le_of_ble_eq_true rfl⟩, (Nat.le_of_ble_eq_true rfl), (Nat.le_of_ble_eq_true rfl)⟩ (Nat.le_of_ble_eq_true rfl) dX10_other_42 rfl ?_
  refine xr_lstore 47 C dX10_other_45 (by decide) rfl [(5, mm_j x42), (0, mm_r v0), (1, mm_i v1), (2, mm_i v2), (3, mm_i v3), (4, mm_i v4)] rfl ?_
  refine xr_aload_n 48 1 C dX10_other_47 rfl rfl rfl ?_
  obtain ⟨x48, h48, hf⟩ := mm_bd_e hf
  refine xr_getI 51 C cf_X10_135 rfl h48 dX10_other_48 rfl ?_
  obtain rfl := Option.some.inj hf
  exact xr_iret C ko ⟨(Nat.le_of_ble_eq_true rfl), (Nat.le_of_ble_eq_true rfl)⟩ dX10_other_51
noncomputable def f_X10_other_16 (M : mm_M) (v0 : Option Nat) (v1 : Int32) (v2 : Int32) (v3 : Int32) (v4 : Int32) : Option (Int32 × mm_M) :=
  (mm_rc M v0 11).bind fun u20 =>
  (f_X10_isSide M v0 v3 v4).bind fun x20 =>
  if x20 = 0 then f_X10_other_26 M else f_X10_other_28 M v0 v1 v2 v3 v4
set_option maxRecDepth 20000 in
theorem w_X10_other_16 {g : mm_c} (C : mm_ok g cX10_other "LessonCardsModel" (some .int) "other" 7 4 102 0 0) {M : mm_M} {v0 : Option Nat} {v1 : Int32} {v2 : Int32} {v3 : Int32} {v4 : Int32} {res : Int32 × mm_M} (hf : f_X10_other_16 M v0 v1 v2 v3 v4 = some res) (ko : (fun z => mm_q g 0 0 (some (mm_i z.1)) z.2) res) : mm_X g 0 0 M 16 [(0, mm_r v0), (1, mm_i v1), (2, mm_i v2), (3, mm_i v3), (4, mm_i v4)] [] := by
  unfold f_X10_other_16 at hf
  refine xr_aload_n 17 0 C dX10_other_16 rfl rfl rfl ?_
  refine xr_iload_n 18 3 C dX10_other_17 rfl rfl rfl ?_
  refine xr_iload 20 4 C dX10_other_18 rfl rfl ?_
  obtain ⟨u20, g20, hf⟩ := mm_bd_e hf
  obtain ⟨x20, h20, hf⟩ := mm_bd_e hf
  refine xr_callV 23 C [mm_i v3, mm_i v4] cm_X10_220 (fun l G cy => c_X10_isSide l G cy h20) g20 rfl rfl ⟨⟨Nat.le_of_ble_eq_true rfl, Nat.le_of_ble_eq_true rfl⟩, (Nat.le_of_ble_eq_true rfl), (Nat.le_of_ble_eq_true rfl)⟩ (Nat.le_of_ble_eq_true rfl) dX10_other_20 rfl ?_
  refine xr_if_ne 28 26 C dX10_other_23 (by decide) rfl (fun hc => ?_) (fun hc => ?_)
  · replace hf := (if_neg hc).symm.trans hf
    exact w_X10_other_28 C hf ko
  · replace hf := (if_pos hc).symm.trans hf
    refine xr_sub [] (lv2 := []) rfl ?_
    exact w_X10_other_26 C hf ko
noncomputable def f_X10_other_7 (M : mm_M) (v0 : Option Nat) (v1 : Int32) (v2 : Int32) (v3 : Int32) (v4 : Int32) : Option (Int32 × mm_M) :=
  (f_X10_within M v2 0 2).bind fun x10 =>
  if x10 = 0 then f_X10_other_26 M else f_X10_other_16 M v0 v1 v2 v3 v4
set_option maxRecDepth 20000 in
theorem w_X10_other_7 {g : mm_c} (C : mm_ok g cX10_other "LessonCardsModel" (some .int) "other" 7 4 102 0 0) {M : mm_M} {v0 : Option Nat} {v1 : Int32} {v2 : Int32} {v3 : Int32} {v4 : Int32} {res : Int32 × mm_M} (hf : f_X10_other_7 M v0 v1 v2 v3 v4 = some res) (ko : (fun z => mm_q g 0 0 (some (mm_i z.1)) z.2) res) : mm_X g 0 0 M 7 [(0, mm_r v0), (1, mm_i v1), (2, mm_i v2), (3, mm_i v3), (4, mm_i v4)] [] := by
  unfold f_X10_other_7 at hf
  refine xr_iload_n 8 2 C dX10_other_7 rfl rfl rfl ?_
  refine xr_iconst 9 C (v := 0) dX10_other_8 (by decide) rfl ?_
  refine xr_iconst 10 C (v := 2) dX10_other_9 (by decide) rfl ?_
  obtain ⟨x10, h10, hf⟩ := mm_bd_e hf
  refine xr_callS 13 C [mm_i v2, mm_i 0, mm_i 2] cm_X10_123 (fun l G cy => c_X10_within l G cy h10) rfl rfl ⟨⟨Nat.le_of_ble_eq_true rfl, Nat.le_of_ble_eq_true rfl⟩, (Nat.le_of_ble_eq_true rfl), (Nat.le_of_ble_eq_true rfl)⟩ (Nat.le_of_ble_eq_true rfl) dX10_other_10 rfl ?_
  refine xr_if_eq 26 16 C dX10_other_13 (by decide) rfl (fun hc => ?_) (fun hc => ?_)
  · replace hf := (if_pos hc).symm.trans hf
    refine xr_sub [] (lv2 := []) rfl ?_
    exact w_X10_other_26 C hf ko
  · replace hf := (if_neg hc).symm.trans hf
    exact w_X10_other_16 C hf ko
noncomputable def f_X10_other_0 (M : mm_M) (v0 : Option Nat) (v1 : Int32) (v2 : Int32) (v3 : Int32) (v4 : Int32) : Option (Int32 × mm_M) :=
  (f_X10_isPupil M v1).bind fun x1 =>
  if x1 = 0 then f_X10_other_26 M else f_X10_other_7 M v0 v1 v2 v3 v4
set_option maxRecDepth 20000 in
theorem w_X10_other_0 {g : mm_c} (C : mm_ok g cX10_other "LessonCardsModel" (some .int) "other" 7 4 102 0 0) {M : mm_M} {v0 : Option Nat} {v1 : Int32} {v2 : Int32} {v3 : Int32} {v4 : Int32} {res : Int32 × mm_M} (hf : f_X10_other_0 M v0 v1 v2 v3 v4 = some res) (ko : (fun z => mm_q g 0 0 (some (mm_i z.1)) z.2) res) : mm_X g 0 0 M 0 [(0, mm_r v0), (1, mm_i v1), (2, mm_i v2), (3, mm_i v3), (4, mm_i v4)] [] := by
  unfold f_X10_other_0 at hf
  refine xr_iload_n 1 1 C dX10_other_0 rfl rfl rfl ?_
  obtain ⟨x1, h1, hf⟩ := mm_bd_e hf
  refine xr_callS 4 C [mm_i v1] cm_X10_190 (fun l G cy => c_X10_isPupil l G cy h1) rfl rfl ⟨⟨Nat.le_of_ble_eq_true rfl, Nat.le_of_ble_eq_true rfl⟩, (Nat.le_of_ble_eq_true rfl), (Nat.le_of_ble_eq_true rfl)⟩ (Nat.le_of_ble_eq_true rfl) dX10_other_1 rfl ?_
  refine xr_if_eq 26 7 C dX10_other_4 (by decide) rfl (fun hc => ?_) (fun hc => ?_)
  · replace hf := (if_pos hc).symm.trans hf
    refine xr_sub [] (lv2 := []) rfl ?_
    exact w_X10_other_26 C hf ko
  · replace hf := (if_neg hc).symm.trans hf
    exact w_X10_other_7 C hf ko
noncomputable def f_X10_other (M : mm_M) (v0 : Option Nat) (v1 : Int32) (v2 : Int32) (v3 : Int32) (v4 : Int32) : Option (Int32 × mm_M) := f_X10_other_0 M v0 v1 v2 v3 v4
theorem c_X10_other (l : Launch) (G : va_G) (cy : Nat → ClassId) {M : mm_M} {v0 : Option Nat} {v1 : Int32} {v2 : Int32} {v3 : Int32} {v4 : Int32} {r : Int32} {M1 : mm_M} (hf : f_X10_other M v0 v1 v2 v3 v4 = some (r, M1)) : mm_Met l yX10_other cX10_other 7 (some .int) 4 102 0 0 G cy [mm_r v0, mm_i v1, mm_i v2, mm_i v3, mm_i v4] M (some (mm_i r)) M1 :=
  mm_enter (by decide) (Nat.le_of_ble_eq_true rfl) (fun p e R s m args below meth c Q C hq => xr_sub [0, 1, 2, 3, 4] (lv2 := [(0, mm_r v0), (1, mm_i v1), (2, mm_i v2), (3, mm_i v3), (4, mm_i v4)]) rfl (w_X10_other_0 C hf hq))
