def tb_rm : List (Nat × Nat × Nat) := [(31, 47, 63), (31, 46, 62), (31, 44, 61), (31, 38, 60), (31, 36, 59), (31, 35, 58), (31, 34, 57), (31, 27, 56), (31, 26, 55), (31, 25, 54), (31, 24, 53), (31, 23, 52), (31, 22, 51), (31, 21, 50), (31, 20, 49), (31, 19, 48), (31, 18, 47), (31, 17, 46), (31, 16, 45), (31, 15, 44), (31, 14, 43), (31, 13, 42), (31, 12, 41), (31, 11, 40), (31, 10, 39), (31, 9, 38), (31, 8, 37), (31, 5, 36), (31, 2, 35), (31, 1, 34), (31, 0, 33)]
def tb_im : List (Nat × Nat × Int32) := [(35, 3, 3000), (35, 2, 2000), (35, 1, 1000), (35, 0, 200), (31, 43, 1), (31, 7, 10), (31, 6, 60)]
def tb_c : List (Nat × Nat × Nat) → Nat → Nat → Option Nat
  | [], _, _ => none
  | t :: ts, o, f => if o = t.1 ∧ f = t.2.1 then some t.2.2 else tb_c ts o f
theorem tb_rc_e (n z : Nat) : ∀ (rs : List (Nat × Nat × Nat)) (o f : Nat), tb_r n z rs o f = (tb_c rs o f).map (fun v => if v = 0 then z else n + (v - 1))
  | [], _, _ => rfl
  | t :: ts, o, f => by
    unfold tb_r tb_c
    by_cases e : o = t.1 ∧ f = t.2.1
    · rw [if_pos e, if_pos e]
      rfl
    · rw [if_neg e, if_neg e]
      exact tb_rc_e n z ts o f
theorem tb_i_no {I : Nat → Nat → Int32} : ∀ {is : List (Nat × Nat × Int32)} {o f : Nat}, (∀ t, t ∈ is → ¬ (t.1 = o ∧ t.2.1 = f)) → tb_i is I o f = I o f
  | [], _, _, _ => rfl
  | t :: ts, o, f, h => by
    have := h t List.mem_cons_self
    unfold tb_i
    rw [if_neg (fun e => this ⟨e.1.symm, e.2.symm⟩)]
    exact tb_i_no (fun u hu => h u (List.mem_cons_of_mem _ hu))
section
variable {n z m o : Nat} {T : mm_M} {rs : List (Nat × Nat × Nat)} {is : List (Nat × Nat × Int32)} {I : Nat → Nat → Int32}
theorem t_Rc (h : tbw n z m T rs is I) {f v : Nat} (hc : tb_c rs o f = some (v + 1)) : mm_R T (n + o) f = some (n + v) := by
  rw [t_R h, tb_rc_e, hc]
  show some (if v + 1 = 0 then z else n + (v + 1 - 1)) = _
  rw [if_neg (by omega), Nat.add_sub_cancel]
theorem t_Rz (h : tbw n z m T rs is I) {f : Nat} (hc : tb_c rs o f = some 0) : mm_R T (n + o) f = some z := by
  rw [t_R h, tb_rc_e, hc]
  rfl
theorem t_X10 (h : tbw n z 32 T tb_rc tb_ic I) : ∃ T1, (∀ {r}, f_X10_init_326w T1 (n + 31) 0 = some r → f_X10_init T (n + 31) = some r) ∧ tbw n z 63 T1 (tb_rm ++ tb_rc) (tb_im ++ tb_ic) I := by
  obtain ⟨T1, f1, h1⟩ := t_na h 12 120 120 (x := 120) rfl (by omega) (by omega) rfl
  obtain ⟨T2, f2, h2⟩ := t_pR h1 (a := n + 31) (ci := 11) 31 0 32 (b := mm_n T) rfl (by omega) rfl (t_n h)
  obtain ⟨T3, f3, h3⟩ := t_na h2 12 480 480 (x := 480) rfl (by omega) (by omega) rfl
  obtain ⟨T4, f4, h4⟩ := t_pR h3 (a := n + 31) (ci := 11) 31 1 33 (b := mm_n T2) rfl (by omega) rfl (t_n h2)
  obtain ⟨T5, f5, h5⟩ := t_na h4 12 120 120 (x := 120) rfl (by omega) (by omega) rfl
  obtain ⟨T6, f6, h6⟩ := t_pR h5 (a := n + 31) (ci := 11) 31 2 34 (b := mm_n T4) rfl (by omega) rfl (t_n h4)
  obtain ⟨T7, f7, h7⟩ := t_na h6 12 4 4 (x := 4) rfl (by omega) (by omega) rfl
  obtain ⟨T8, f8, h8⟩ := t_pR h7 (a := n + 31) (ci := 11) 31 5 35 (b := mm_n T6) rfl (by omega) rfl (t_n h6)
  obtain ⟨T9, f9, h9⟩ := t_pI h8 (a := n + 31) (ci := 11) 31 6 60 rfl (by omega) rfl
  obtain ⟨T10, f10, h10⟩ := t_pI h9 (a := n + 31) (ci := 11) 31 7 10 rfl (by omega) rfl
  obtain ⟨T11, f11, h11⟩ := t_na h10 12 4 4 (x := 4) rfl (by omega) (by omega) rfl
  obtain ⟨T12, f12, h12⟩ := t_pR h11 (a := n + 31) (ci := 11) 31 8 36 (b := mm_n T10) rfl (by omega) rfl (t_n h10)
  obtain ⟨T13, f13, h13⟩ := t_na h12 12 1920 1920 (x := 1920) rfl (by omega) (by omega) rfl
  obtain ⟨T14, f14, h14⟩ := t_pR h13 (a := n + 31) (ci := 11) 31 9 37 (b := mm_n T12) rfl (by omega) rfl (t_n h12)
  obtain ⟨T15, f15, h15⟩ := t_na h14 12 4 4 (x := 4) rfl (by omega) (by omega) rfl
  obtain ⟨T16, f16, h16⟩ := t_pR h15 (a := n + 31) (ci := 11) 31 10 38 (b := mm_n T14) rfl (by omega) rfl (t_n h14)
  obtain ⟨T17, f17, h17⟩ := t_na h16 12 1920 1920 (x := 1920) rfl (by omega) (by omega) rfl
  obtain ⟨T18, f18, h18⟩ := t_pR h17 (a := n + 31) (ci := 11) 31 11 39 (b := mm_n T16) rfl (by omega) rfl (t_n h16)
  obtain ⟨T19, f19, h19⟩ := t_na h18 14 1920 1920 (x := 1920) rfl (by omega) (by omega) rfl
  obtain ⟨T20, f20, h20⟩ := t_pR h19 (a := n + 31) (ci := 11) 31 12 40 (b := mm_n T18) rfl (by omega) rfl (t_n h18)
  obtain ⟨T21, f21, h21⟩ := t_na h20 12 1920 1920 (x := 1920) rfl (by omega) (by omega) rfl
  obtain ⟨T22, f22, h22⟩ := t_pR h21 (a := n + 31) (ci := 11) 31 13 41 (b := mm_n T20) rfl (by omega) rfl (t_n h20)
  obtain ⟨T23, f23, h23⟩ := t_na h22 12 1920 1920 (x := 1920) rfl (by omega) (by omega) rfl
  obtain ⟨T24, f24, h24⟩ := t_pR h23 (a := n + 31) (ci := 11) 31 14 42 (b := mm_n T22) rfl (by omega) rfl (t_n h22)
  obtain ⟨T25, f25, h25⟩ := t_na h24 12 1920 1920 (x := 1920) rfl (by omega) (by omega) rfl
  obtain ⟨T26, f26, h26⟩ := t_pR h25 (a := n + 31) (ci := 11) 31 15 43 (b := mm_n T24) rfl (by omega) rfl (t_n h24)
  obtain ⟨T27, f27, h27⟩ := t_na h26 12 1920 1920 (x := 1920) rfl (by omega) (by omega) rfl
  obtain ⟨T28, f28, h28⟩ := t_pR h27 (a := n + 31) (ci := 11) 31 16 44 (b := mm_n T26) rfl (by omega) rfl (t_n h26)
  obtain ⟨T29, f29, h29⟩ := t_na h28 12 1920 1920 (x := 1920) rfl (by omega) (by omega) rfl
  obtain ⟨T30, f30, h30⟩ := t_pR h29 (a := n + 31) (ci := 11) 31 17 45 (b := mm_n T28) rfl (by omega) rfl (t_n h28)
  obtain ⟨T31, f31, h31⟩ := t_na h30 12 3000 3000 (x := 3000) rfl (by omega) (by omega) rfl
  obtain ⟨T32, f32, h32⟩ := t_pR h31 (a := n + 31) (ci := 11) 31 18 46 (b := mm_n T30) rfl (by omega) rfl (t_n h30)
  obtain ⟨T33, f33, h33⟩ := t_na h32 12 3000 3000 (x := 3000) rfl (by omega) (by omega) rfl
  obtain ⟨T34, f34, h34⟩ := t_pR h33 (a := n + 31) (ci := 11) 31 19 47 (b := mm_n T32) rfl (by omega) rfl (t_n h32)
  obtain ⟨T35, f35, h35⟩ := t_na h34 12 3000 3000 (x := 3000) rfl (by omega) (by omega) rfl
  obtain ⟨T36, f36, h36⟩ := t_pR h35 (a := n + 31) (ci := 11) 31 20 48 (b := mm_n T34) rfl (by omega) rfl (t_n h34)
  obtain ⟨T37, f37, h37⟩ := t_na h36 12 3000 3000 (x := 3000) rfl (by omega) (by omega) rfl
  obtain ⟨T38, f38, h38⟩ := t_pR h37 (a := n + 31) (ci := 11) 31 21 49 (b := mm_n T36) rfl (by omega) rfl (t_n h36)
  obtain ⟨T39, f39, h39⟩ := t_na h38 12 3000 3000 (x := 3000) rfl (by omega) (by omega) rfl
  obtain ⟨T40, f40, h40⟩ := t_pR h39 (a := n + 31) (ci := 11) 31 22 50 (b := mm_n T38) rfl (by omega) rfl (t_n h38)
  obtain ⟨T41, f41, h41⟩ := t_na h40 12 3000 3000 (x := 3000) rfl (by omega) (by omega) rfl
  obtain ⟨T42, f42, h42⟩ := t_pR h41 (a := n + 31) (ci := 11) 31 23 51 (b := mm_n T40) rfl (by omega) rfl (t_n h40)
  obtain ⟨T43, f43, h43⟩ := t_na h42 12 3000 3000 (x := 3000) rfl (by omega) (by omega) rfl
  obtain ⟨T44, f44, h44⟩ := t_pR h43 (a := n + 31) (ci := 11) 31 24 52 (b := mm_n T42) rfl (by omega) rfl (t_n h42)
  obtain ⟨T45, f45, h45⟩ := t_na h44 12 3000 3000 (x := 3000) rfl (by omega) (by omega) rfl
  obtain ⟨T46, f46, h46⟩ := t_pR h45 (a := n + 31) (ci := 11) 31 25 53 (b := mm_n T44) rfl (by omega) rfl (t_n h44)
  obtain ⟨T47, f47, h47⟩ := t_na h46 12 3000 3000 (x := 3000) rfl (by omega) (by omega) rfl
  obtain ⟨T48, f48, h48⟩ := t_pR h47 (a := n + 31) (ci := 11) 31 26 54 (b := mm_n T46) rfl (by omega) rfl (t_n h46)
  obtain ⟨T49, f49, h49⟩ := t_na h48 12 3000 3000 (x := 3000) rfl (by omega) (by omega) rfl
  obtain ⟨T50, f50, h50⟩ := t_pR h49 (a := n + 31) (ci := 11) 31 27 55 (b := mm_n T48) rfl (by omega) rfl (t_n h48)
  obtain ⟨T51, f51, h51⟩ := t_na h50 12 480 480 (x := 480) rfl (by omega) (by omega) rfl
  obtain ⟨T52, f52, h52⟩ := t_pR h51 (a := n + 31) (ci := 11) 31 34 56 (b := mm_n T50) rfl (by omega) rfl (t_n h50)
  obtain ⟨T53, f53, h53⟩ := t_na h52 12 480 480 (x := 480) rfl (by omega) (by omega) rfl
  obtain ⟨T54, f54, h54⟩ := t_pR h53 (a := n + 31) (ci := 11) 31 35 57 (b := mm_n T52) rfl (by omega) rfl (t_n h52)
  obtain ⟨T55, f55, h55⟩ := t_na h54 12 81 81 (x := 81) rfl (by omega) (by omega) rfl
  obtain ⟨T56, f56, h56⟩ := t_pR h55 (a := n + 31) (ci := 11) 31 36 58 (b := mm_n T54) rfl (by omega) rfl (t_n h54)
  obtain ⟨T57, f57, h57⟩ := t_na h56 13 8 8 (x := 8) rfl (by omega) (by omega) rfl
  obtain ⟨T58, f58, h58⟩ := t_pR h57 (a := n + 31) (ci := 11) 31 38 59 (b := mm_n T56) rfl (by omega) rfl (t_n h56)
  obtain ⟨T59, f59, h59⟩ := t_pZ h58 (a := n + 31) (ci := 11) 31 43 (x := 1) (Or.inr rfl) rfl (by omega) rfl
  obtain ⟨T60, f60, h60⟩ := t_na h59 14 120 120 (x := 120) rfl (by omega) (by omega) rfl
  obtain ⟨T61, f61, h61⟩ := t_pR h60 (a := n + 31) (ci := 11) 31 44 60 (b := mm_n T59) rfl (by omega) rfl (t_n h59)
  obtain ⟨T62, f62, h62⟩ := t_na h61 12 120 120 (x := 120) rfl (by omega) (by omega) rfl
  obtain ⟨T63, f63, h63⟩ := t_pR h62 (a := n + 31) (ci := 11) 31 46 61 (b := mm_n T61) rfl (by omega) rfl (t_n h61)
  obtain ⟨T64, f64, h64⟩ := t_na h63 12 2400 2400 (x := 2400) rfl (by omega) (by omega) rfl
  obtain ⟨T65, f65, h65⟩ := t_pR h64 (a := n + 31) (ci := 11) 31 47 62 (b := mm_n T63) rfl (by omega) rfl (t_n h63)
  have g66 : mm_fR T65 (some (n + 31)) 11 5 = some (some (n + 35)) := pfR ((t_k h65 (o := 31) (by omega)).trans (congrArg some rfl)) ((t_R h65 31 5).trans rfl)
  obtain ⟨T66, f66, h66⟩ := t_tI h65 (a := n + 35) 35 0 4 (y := 0) 200 rfl (by omega) (by omega) rfl (by omega) rfl
  have g67 : mm_fR T66 (some (n + 31)) 11 5 = some (some (n + 35)) := pfR ((t_k h66 (o := 31) (by omega)).trans (congrArg some rfl)) ((t_R h66 31 5).trans rfl)
  obtain ⟨T67, f67, h67⟩ := t_tI h66 (a := n + 35) 35 1 4 (y := 1) 1000 rfl (by omega) (by omega) rfl (by omega) rfl
  have g68 : mm_fR T67 (some (n + 31)) 11 5 = some (some (n + 35)) := pfR ((t_k h67 (o := 31) (by omega)).trans (congrArg some rfl)) ((t_R h67 31 5).trans rfl)
  obtain ⟨T68, f68, h68⟩ := t_tI h67 (a := n + 35) 35 2 4 (y := 2) 2000 rfl (by omega) (by omega) rfl (by omega) rfl
  have g69 : mm_fR T68 (some (n + 31)) 11 5 = some (some (n + 35)) := pfR ((t_k h68 (o := 31) (by omega)).trans (congrArg some rfl)) ((t_R h68 31 5).trans rfl)
  obtain ⟨T69, f69, h69⟩ := t_tI h68 (a := n + 35) 35 3 4 (y := 3) 3000 rfl (by omega) (by omega) rfl (by omega) rfl
  refine ⟨T69, fun {r} q => ?_, h69⟩
  unfold f_X10_init f_X10_init_0
  exact bx f1 (bx f2 (bx f3 (bx f4 (bx f5 (bx f6 (bx f7 (bx f8 (bx f9 (bx f10 (bx f11 (bx f12 (bx f13 (bx f14 (bx f15 (bx f16 (bx f17 (bx f18 (bx f19 (bx f20 (bx f21 (bx f22 (bx f23 (bx f24 (bx f25 (bx f26 (bx f27 (bx f28 (bx f29 (bx f30 (bx f31 (bx f32 (bx f33 (bx f34 (bx f35 (bx f36 (bx f37 (bx f38 (bx f39 (bx f40 (bx f41 (bx f42 (bx f43 (bx f44 (bx f45 (bx f46 (bx f47 (bx f48 (bx f49 (bx f50 (bx f51 (bx f52 (bx f53 (bx f54 (bx f55 (bx f56 (bx f57 (bx f58 (bx f59 (bx f60 (bx f61 (bx f62 (bx f63 (bx f64 (bx f65 (bx g66 (bx f66 (bx g67 (bx f67 (bx g68 (bx f68 (bx g69 (bx f69 q))))))))))))))))))))))))))))))))))))))))))))))))))))))))))))))))))))))))
/-- the state of new objects; some things of the model are yet to be written -/
def ls_S0 (f j : Nat) : Nat := if f = 5 then (if j = 0 then 200 else if j = 1 then 1000 else if j = 2 then 2000 else 3000) else if f = 6 then 60 else if f = 7 then 10 else if f = 43 then 1 else if f = 16 ∨ f = 26 ∨ f = 32 ∨ f = 34 ∨ f = 35 ∨ f = 47 then 1 else 0
theorem t_M0 (h : tbw n z 63 T (tb_rm ++ tb_rc) (tb_im ++ tb_ic) I) (hI : ∀ b f, b ≠ 1 → b ≠ 2 → I b f = 0) : ls_M n ls_S0 T T := by
  have q1 : ∀ f, f ∈ 38 :: ls_aF → tb_c (tb_rm ++ tb_rc) 31 f = some (31 + ls_ao f + 1) ∧ 31 + ls_ao f < 63 ∧ tb_K (31 + ls_ao f) = (if f = 38 then (13, 8) else (ls_ak f, ls_al f)) := by decide +kernel
  have q2 : ∀ f, f ∈ ls_aF → f ≠ 5 → (∀ t, t ∈ tb_im ++ tb_ic → t.1 ≠ 31 + ls_ao f) ∧ 2 < 31 + ls_ao f ∧ f ≠ 6 ∧ f ≠ 7 ∧ f ≠ 43 := by decide +kernel
  have q3 : ∀ f, f ∈ ls_sF → f ≠ 6 → f ≠ 7 → f ≠ 43 → (∀ t, t ∈ tb_im ++ tb_ic → ¬ (t.1 = 31 ∧ t.2.1 = f)) ∧ f ≠ 5 := by decide +kernel
  have q38 : ∀ f, f ∈ ls_aF → f ≠ 38 := by decide
  have ad : ∀ f, ls_ad n f = n + (31 + ls_ao f) := fun f => by unfold ls_ad; omega
  refine ⟨⟨(t_k h (o := 31) (by omega)).trans (congrArg some rfl), fun f hf => ⟨?_, ?_⟩, ?_, ?_⟩, fun f hf j hj => ?_, fun f hf => ?_, fun j hj => ?_, ls_mf_rf n T⟩
  · rw [ad]; exact t_Rc h (q1 f (List.mem_cons_of_mem _ hf)).1
  · have z := q1 f (List.mem_cons_of_mem _ hf)
    rw [ad, t_k h z.2.1, z.2.2, if_neg (q38 f hf)]
  · rw [ad]; exact t_Rc h (q1 38 List.mem_cons_self).1
  · have z := q1 38 List.mem_cons_self
    rw [ad, t_k h z.2.1, z.2.2, if_pos rfl]
  · rw [ad, t_I h]
    by_cases e : f = 5
    · subst e
      have : j = 0 ∨ j = 1 ∨ j = 2 ∨ j = 3 := by have : j < 4 := hj; omega
      rcases this with rfl | rfl | rfl | rfl <;> rfl
    · have z := q2 f hf e
      rw [tb_i_no (fun t ht q => z.1 t ht q.1), hI _ _ (by omega) (by omega)]
      unfold ls_S0
      rw [if_neg e, if_neg z.2.2.1, if_neg z.2.2.2.1, if_neg z.2.2.2.2]
      unfold ls_en
      by_cases e2 : f = 16 ∨ f = 26 ∨ f = 32 ∨ f = 34 ∨ f = 35 ∨ f = 47
      · rw [if_pos e2, if_pos e2]; rfl
      · rw [if_neg e2, if_neg e2]; rfl
  · rw [t_I h 31 f]
    by_cases e6 : f = 6
    · subst e6; rfl
    · by_cases e7 : f = 7
      · subst e7; rfl
      · by_cases e43 : f = 43
        · subst e43; rfl
        · have z := q3 f hf e6 e7 e43
          rw [tb_i_no z.1, hI _ _ (by omega) (by omega)]
          unfold ls_S0
          rw [if_neg z.2, if_neg e6, if_neg e7, if_neg e43]
          unfold ls_en
          by_cases e2 : f = 16 ∨ f = 26 ∨ f = 32 ∨ f = 34 ∨ f = 35 ∨ f = 47
          · rw [if_pos e2, if_pos e2]; rfl
          · rw [if_neg e2, if_neg e2]; rfl
  · rw [h.1]
    rfl
/-- what is known of the state of new objects -/
def ls_N0 (τ : ls_S) : Prop := (∀ f j, f ≠ 14 → f ≠ 16 → f ≠ 35 → τ f j = ls_S0 f j) ∧ ∀ j, j < 1920 → τ 14 j = 2500 ∧ τ 16 j = 0
theorem t_C0 (h : tbw n z 63 T (tb_rm ++ tb_rc) (tb_im ++ tb_ic) I) (hz : z < n) (j1 : I 1 1 = nI 15) (j2 : ∀ i, i < 400 → I 2 i = nI (ls_F i)) (j3 : ∀ b f, b ≠ 1 → b ≠ 2 → I b f = 0) {τ : ls_S} (hτ : ls_N0 τ) : lc n τ T T := by
  have e := fun f j (a : f ≠ 14 ∧ f ≠ 16 ∧ f ≠ 35) => hτ.1 f j a.1 a.2.1 a.2.2
  have t3 : τ 3 0 = 0 := (e 3 0 (by omega)).trans rfl
  have t28 : τ 28 0 = 0 := (e 28 0 (by omega)).trans rfl
  have no : ∀ {o f}, (∀ t, t ∈ tb_im ++ tb_ic → ¬ (t.1 = o ∧ t.2.1 = f)) → o ≠ 1 → o ≠ 2 → mm_I T (n + o) f = 0 := fun {o f} hh a b => by
    rw [t_I h, tb_i_no hh, j3 _ _ a b]
  have q1 : ∀ t, t ∈ lc_kt → t.1 < 63 ∧ tb_K t.1 = t.2 := by decide +kernel
  have q2 : ∀ t, t ∈ lc_rt → tb_c (tb_rm ++ tb_rc) t.1 t.2.1 = some (t.2.2 + 1) := by decide +kernel
  have q3 : ∀ a, a ∈ lc_ls → tb_c (tb_rm ++ tb_rc) a 1 = some 0 := by decide +kernel
  have el : ∀ a, a ∈ lc_ls → mm_R T (n + a) 1 = some (mm_z T) := fun a ha => by rw [t_Rz h (q3 a ha), t_z h]
  have q4 : ∀ p, p < 5 → (∀ t, t ∈ tb_im ++ tb_ic → ¬ (t.1 = lc_lo p + 1 ∧ t.2.1 = 2)) ∧ (∀ t, t ∈ tb_im ++ tb_ic → ¬ (t.1 = lc_lo p ∧ t.2.1 = 3)) ∧ (∀ t, t ∈ tb_im ++ tb_ic → ¬ (t.1 = lc_lo p ∧ t.2.1 = 2)) := by decide +kernel
  have q5 : (∀ t, t ∈ tb_im ++ tb_ic → ¬ (t.1 = 4 ∧ t.2.1 = 2)) ∧ (∀ t, t ∈ tb_im ++ tb_ic → ¬ (t.1 = 11 ∧ t.2.1 = 2)) ∧ (∀ t, t ∈ tb_im ++ tb_ic → ¬ (t.1 = 12 ∧ t.2.1 = 4)) ∧ (∀ t, t ∈ tb_im ++ tb_ic → ¬ (t.1 = 16 ∧ t.2.1 = 1)) ∧ (∀ t, t ∈ tb_im ++ tb_ic → ¬ (t.1 = 16 ∧ t.2.1 = 2)) ∧ (∀ t, t ∈ tb_im ++ tb_ic → ¬ (t.1 = 16 ∧ t.2.1 = 3)) ∧ (∀ t, t ∈ tb_im ++ tb_ic → ¬ (t.1 = 16 ∧ t.2.1 = 4)) ∧ (∀ t, t ∈ tb_im ++ tb_ic → t.1 ≠ 1 ∧ t.1 ≠ 2) := by decide +kernel
  have v0 : ∀ {P : Nat → Prop} (c : Nat), c < τ 3 0 → P c := fun c hc => by omega
  refine ⟨⟨⟨fun t ht => ?_, fun t ht => t_Rc h (q2 t ht)⟩, ⟨by rw [t_z h]; exact hz, ?_, by rw [t_n h]; omega, fun a ha => ?_⟩, ⟨fun p hp => Or.inl ⟨t3, el _ (lo_in hp)⟩, Or.inl ⟨t3, el 4 (by decide)⟩, Or.inl ⟨t28, el 11 (by decide)⟩, fun a ha b hb _ => Or.inr ?_⟩, fun p hp c hc => by omega, fun p hp c hc => by omega, fun c hc => by omega, fun c hc => by omega, fun i hi => by omega⟩, ⟨⟨?_, ?_, ?_⟩, fun a ha => ?_, ⟨?_, fun i hi => ?_⟩, ⟨fun p hp => ?_, ?_, ?_⟩, fun p hp => ⟨?_, ?_⟩, fun p hp i hi => ?_, fun p hp c hc => by omega, fun c hc => by omega, fun i hi => by omega, ⟨Or.inl ((e 37 0 (by omega)).trans rfl), ?_, fun q => ?_⟩, ⟨?_, ?_, ?_, ?_, ?_⟩, fun l hl => ?_⟩, lc_mf_rf n T⟩
  · rw [t_k h (q1 t ht).1, (q1 t ht).2]
  · rw [t_z h, h.1]
    show (if z < n then (if z = z then some (18, 0) else none) else _) = _
    rw [if_pos hz, if_pos rfl]
  · rw [t_n h] at ha
    rw [h.1]
    show (if a < n then _ else if a - n < 63 then some (tb_K (a - n)) else none) = _
    rw [if_neg (by omega), if_neg (by omega)]
  · show (mm_R T (n + a) 1).getD 0 = _
    rw [el a ha]
    rfl
  · rw [e 4 0 (by omega)]; exact (t_I h 0 8).trans rfl
  · rw [e 6 0 (by omega)]; exact (t_I h 0 9).trans rfl
  · rw [e 7 0 (by omega)]; exact (t_I h 0 10).trans rfl
  · rw [e 5 a (by omega), t_I h]
    have : a = 0 ∨ a = 1 ∨ a = 2 ∨ a = 3 := by omega
    rcases this with rfl | rfl | rfl | rfl <;> rfl
  · rw [t_I h, tb_i_no (fun t ht q => (q5.2.2.2.2.2.2.2 t ht).1 q.1)]; exact j1
  · rw [t_I h, tb_i_no (fun t ht q => (q5.2.2.2.2.2.2.2 t ht).2 q.1)]; exact j2 i hi
  · have := lc_lov hp
    rw [no (q4 p hp).1 (by omega) (by omega), t3]; rfl
  · rw [no q5.1 (by omega) (by omega), t3]; rfl
  · rw [no q5.2.1 (by omega) (by omega), t28]; rfl
  · have := lc_lov (show p < 5 by omega)
    rw [no (q4 p (by omega)).2.1 (by omega) (by omega), e 8 p (by omega)]; rfl
  · have := lc_lov (show p < 5 by omega)
    rw [no (q4 p (by omega)).2.2 (by omega) (by omega), e 10 p (by omega)]; rfl
  · rw [e 10 p (by omega)] at hi
    exact absurd hi (Nat.not_lt_zero i)
  · rw [no q5.2.2.1 (by omega) (by omega), e 37 0 (by omega)]; rfl
  · rw [e 37 0 (by omega)] at q
    cases q
  · rw [no q5.2.2.2.1 (by omega) (by omega), e 39 0 (by omega)]; rfl
  · rw [no q5.2.2.2.2.1 (by omega) (by omega), e 40 0 (by omega)]; rfl
  · rw [no q5.2.2.2.2.2.1 (by omega) (by omega), e 41 0 (by omega)]; rfl
  · rw [no q5.2.2.2.2.2.2.1 (by omega) (by omega), e 42 0 (by omega)]; rfl
  · rw [e 43 0 (by omega)]; exact (t_I h 16 5).trans rfl
  · rw [e 39 0 (by omega)] at hl
    exact absurd hl (Nat.not_lt_zero l)
theorem ls_G0 {τ : ls_S} (hτ : ls_N0 τ) : ls_G 0 τ := by
  have e := fun f j (a : f ≠ 14 ∧ f ≠ 16 ∧ f ≠ 35) => hτ.1 f j a.1 a.2.1 a.2.2
  have ea : ∀ q, q < 1920 → ls_at τ q = (0, 2500, 0, 0, 0) := fun q hq => by
    unfold ls_at
    rw [e 13 q (by omega), (hτ.2 q hq).1, e 15 q (by omega), (hτ.2 q hq).2, e 17 q (by omega)]
    rfl
  have t3 : τ 3 0 = 0 := (e 3 0 (by omega)).trans rfl
  have t28 : τ 28 0 = 0 := (e 28 0 (by omega)).trans rfl
  have t39 : τ 39 0 = 0 := (e 39 0 (by omega)).trans rfl
  have t42 : τ 42 0 = 0 := (e 42 0 (by omega)).trans rfl
  have t43 : τ 43 0 = 1 := (e 43 0 (by omega)).trans rfl
  have t4 : τ 4 0 = 0 := (e 4 0 (by omega)).trans rfl
  have t6 : τ 6 0 = 60 := (e 6 0 (by omega)).trans rfl
  have t7 : τ 7 0 = 10 := (e 7 0 (by omega)).trans rfl
  have t8 : ∀ p, τ 8 p = 0 := fun p => (e 8 p (by omega)).trans rfl
  have t10 : ∀ p, τ 10 p = 0 := fun p => (e 10 p (by omega)).trans rfl
  refine ⟨⟨by omega, fun c hc => by omega, fun c hc => by omega⟩, ⟨by omega, fun a ha => ?_, by omega, by omega, fun p hp => by rw [t8]; omega⟩, fun p hp q hq => ?_, fun p hp => ⟨by rw [t10]; omega, fun i hi => by rw [t10] at hi; omega, fun i hi => by rw [t10] at hi; omega⟩, ⟨by omega, fun i hi => by omega⟩, ⟨by omega, by omega, fun q => by omega, by omega, fun q => by omega, fun l hl => by omega⟩, ⟨fun q hq => ?_, fun q hq => ?_⟩, fun p hp q hq => ⟨?_, fun _ => ⟨?_, ?_, ?_⟩⟩⟩
  · rw [e 5 a (by omega)]
    have : a = 0 ∨ a = 1 ∨ a = 2 ∨ a = 3 := by omega
    rcases this with rfl | rfl | rfl | rfl <;> decide
  · rw [ea _ (by omega)]
    exact ⟨Or.inl rfl, by show 0 ≤ 4000000; omega, by show 1300 ≤ 2500; omega, by show 2500 ≤ 3500; omega, by show 0 ≤ 9; omega, Nat.zero_le _, by show 0 ≤ 100000; omega⟩
  · rw [e 12 q (by omega)]; exact Nat.zero_le _
  · rw [e 11 q (by omega)]; exact Nat.zero_le _
  · rw [ea _ (by omega)]; exact Nat.zero_le _
  · exact ea _ (by omega)
  · rw [e 11 _ (by omega)]; rfl
  · rw [e 12 _ (by omega)]; rfl
theorem tb_em {n z : Nat} (hz : z < n) : tbw n z 0 (mm_em n z) [] [] (fun _ _ => 0) := by
  refine ⟨mm_eq ?_ ?_ ?_ rfl rfl rfl, fun t ht => absurd ht List.not_mem_nil, fun t ht => absurd ht List.not_mem_nil, fun _ _ _ => rfl⟩
  · funext a
    show (if a = z then some (18, 0) else none) = if a < n then (if a = z then some (18, 0) else none) else if a - n < 0 then some (tb_K (a - n)) else none
    by_cases e : a < n
    · rw [if_pos e]
    · rw [if_neg e, if_neg (by omega), if_neg (by omega)]
  · funext a f
    show 0 = if a < n then 0 else (0 : Int32)
    split <;> rfl
  · funext a f
    show none = if a < n then none else none
    split <;> rfl
/-- both made: the worlds side by side -/
theorem whole_init {n z : Nat} (hz : z < n) : ∃ T1 MF, f_X9_init (mm_nw (mm_em n z) (10, 0)) n = some T1 ∧ mm_n T1 = n + 31 ∧ f_X10_init (mm_nw T1 (11, 0)) (n + 31) = some MF ∧ ls_R n 0 MF := by
  obtain ⟨T1, J, f1, h1, j1, j2, j3⟩ := t_X9 (t_nw (tb_em hz) (kd := (10, 0)) rfl)
  obtain ⟨T2, f2, h2⟩ := t_X10 (t_nw h1 (kd := (11, 0)) rfl)
  have hM := t_M0 h2 j3
  obtain ⟨MF, fF, τ, hF, hτ⟩ := pe_cnt (body := fun x : mm_M × Int32 => f_X10_init_326 x.1 (n + 31) x.2) (x := (T2, 0))
    (fun i x => ∃ M1 τ, x = (M1, nI i) ∧ ls_M n τ T2 M1 ∧ (∀ f j, f ≠ 14 → f ≠ 16 → τ f j = ls_S0 f j) ∧ ∀ j, j < i → τ 14 j = 2500 ∧ τ 16 j = 0)
    (fun MF => ∃ τ, ls_M n τ T2 MF ∧ ls_N0 τ) 1920 ⟨T2, ls_S0, rfl, hM, fun _ _ _ _ => rfl, fun j hj => absurd hj (Nat.not_lt_zero j)⟩ (by
      rintro i x hi ⟨M1, τ, rfl, hm, he, hd⟩
      obtain ⟨M2, f2, h2⟩ := ls_tI hm 14 i 2500 (by decide) rfl hi
      obtain ⟨M3, f3, h3⟩ := ls_tI h2 16 i 0 (by decide) rfl hi
      refine ⟨(M3, nI (i + 1)), iff_ (nI_ge (b := 1920) hi (by omega)) (bx (ls_fR hm 14 (by decide)) (bx (a := M2) f2 (bx (ls_fR h2 16 (by decide)) (bx (a := M3) f3 ?_)))), M3, _, rfl, h3, fun f j h14 h16 => ?_, fun j hj => ⟨?_, ?_⟩⟩
      · show some (Sum.inl (M3, nI i + 1)) = _
        rw [nI_1]
      · rw [mm_u, if_neg (fun q => h16 q.1), mm_u, if_neg (fun q => h14 q.1)]; exact he f j h14 h16
      · rw [mm_u, if_neg (by omega), mm_u]
        by_cases e : j = i
        · rw [if_pos ⟨rfl, e⟩]
        · rw [if_neg (fun q => e q.2)]; exact (hd j (by omega)).1
      · rw [mm_u]
        by_cases e : j = i
        · rw [if_pos ⟨rfl, e⟩]
        · rw [if_neg (fun q => e q.2), mm_u, if_neg (by omega)]; exact (hd j (by omega)).2) (by
      rintro x ⟨M1, τ, rfl, hm, he, hd⟩
      obtain ⟨MF, fF, τF, hF, hτ⟩ := pe_cnt (body := fun x : mm_M × Int32 => f_X10_init_357 x.1 (n + 31) x.2) (x := (M1, 0))
        (fun i x => ∃ M1 τ, x = (M1, nI i) ∧ ls_M n τ T2 M1 ∧ ls_N0 τ) (fun MF => ∃ τ, ls_M n τ T2 MF ∧ ls_N0 τ) 480 ⟨M1, τ, rfl, hm, fun f j a b _ => he f j a b, hd⟩ (by
          rintro i x hi ⟨M2, τ, rfl, hm2, hn⟩
          obtain ⟨M3, f3, h3⟩ := ls_tI hm2 35 i 0 (by decide) rfl hi
          refine ⟨(M3, nI (i + 1)), iff_ (nI_ge (b := 480) hi (by omega)) (bx (ls_fR hm2 35 (by decide)) (bx (a := M3) f3 ?_)), M3, _, rfl, h3, fun f j a b c => ?_, fun j hj => ⟨?_, ?_⟩⟩
          · show some (Sum.inl (M3, nI i + 1)) = _
            rw [nI_1]
          · rw [mm_u, if_neg (fun q => c q.1)]; exact hn.1 f j a b c
          · rw [mm_u, if_neg (by omega)]; exact (hn.2 j hj).1
          · rw [mm_u, if_neg (by omega)]; exact (hn.2 j hj).2) (by
          rintro x ⟨M2, τ, rfl, hm2, hn⟩
          exact ⟨M2, ift (nI_le (a := 480) (b := 480) (by omega) (by omega)) (mpx rfl), τ, hm2, hn⟩)
      exact ⟨MF, ift (nI_le (a := 1920) (b := 1920) (by omega) (by omega)) (mpx fF), τF, hF, hτ⟩)
  exact ⟨T1, MF, f1, t_n h1, f2 fF, ls_call hF (t_C0 h2 hz j1 j2 j3 hτ) (ls_G0 hτ)⟩
end
