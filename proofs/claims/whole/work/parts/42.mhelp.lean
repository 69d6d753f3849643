section
variable {n : Nat} {σ : ls_S} {B M : mm_M}
-- questions
theorem ls_within (M : mm_M) (x a b : Int32) : f_X10_within M x a b = some (if a ≤ x ∧ x ≤ b then 1 else 0) := by
  by_cases h : x < a
  · rw [if_neg (fun q => absurd h (Int32.not_lt.mpr q.1))]
    exact ift h (gz (s := 0) (Or.inl rfl) rfl)
  · refine iff_ h ?_
    by_cases h2 : b < x
    · rw [if_neg (fun q => absurd h2 (Int32.not_lt.mpr q.2))]
      exact ift h2 (gz (s := 0) (Or.inl rfl) rfl)
    · rw [if_pos ⟨Int32.not_lt.mp h, Int32.not_lt.mp h2⟩]
      exact iff_ h2 (gz (s := 1) (Or.inr rfl) rfl)
theorem ls_isPupil (M : mm_M) (x : Int32) : f_X10_isPupil M x = some (if 0 ≤ x ∧ x < 4 then 1 else 0) := by
  by_cases h : x < 0
  · rw [if_neg (fun q => absurd h (Int32.not_lt.mpr q.1))]
    exact ift h (gz (s := 0) (Or.inl rfl) rfl)
  · refine iff_ h ?_
    by_cases h2 : 4 ≤ x
    · rw [if_neg (fun q => absurd q.2 (Int32.not_lt.mpr h2))]
      exact ift h2 (gz (s := 0) (Or.inl rfl) rfl)
    · rw [if_pos ⟨Int32.not_lt.mp h, Int32.not_le.mp h2⟩]
      exact iff_ h2 (gz (s := 1) (Or.inr rfl) rfl)
theorem ls_isCard (h : ls_M n σ B M) (x : Int32) : f_X10_isCard M (some (n + 31)) x = some (if 0 ≤ x ∧ x < nI (σ 3 0) then 1 else 0) := by
  by_cases h0 : x < 0
  · rw [if_neg (fun q => absurd h0 (Int32.not_lt.mpr q.1))]
    exact ift h0 (gz (s := 0) (Or.inl rfl) rfl)
  · refine iff_ h0 (bx (ls_fI h 3 (by decide)) ?_)
    by_cases h2 : nI (σ 3 0) ≤ x
    · have e : (if 0 ≤ x ∧ x < nI (σ 3 0) then (1 : Int32) else 0) = 0 := if_neg (fun q => absurd q.2 (Int32.not_lt.mpr h2))
      rw [e]
      exact ift h2 (gz (s := 0) (Or.inl rfl) rfl)
    · have e : (if 0 ≤ x ∧ x < nI (σ 3 0) then (1 : Int32) else 0) = 1 := if_pos ⟨Int32.not_lt.mp h0, Int32.not_le.mp h2⟩
      rw [e]
      exact iff_ h2 (gz (s := 1) (Or.inr rfl) rfl)
/-- the sides that there are -/
abbrev ls_side (σ : ls_S) (c s : Nat) : Prop := c < σ 3 0 ∧ s < σ 0 c
abbrev ls_sideI (σ : ls_S) (x y : Int32) : Prop := ∃ c s, c < σ 3 0 ∧ s < σ 0 c ∧ x = nI c ∧ y = nI s
theorem ls_isSide_in (h : ls_M n σ B M) (h3 : σ 3 0 ≤ 120) {c s : Nat} (hc : c < σ 3 0) (hs : s < σ 0 c) (h0 : σ 0 c < 2 ^ 31) : f_X10_isSide M (some (n + 31)) (nI c) (nI s) = some 1 := by
  refine bx (ls_rc h) (bx (ls_isCard h (nI c)) ?_)
  rw [if_pos (show 0 ≤ nI c ∧ nI c < nI (σ 3 0) from ⟨nI_pos' (by omega), nI_lt hc (by omega)⟩)]
  exact iff_ (by decide) (iff_ (nI_pos (by omega)) (bx (ls_fR h 0 (by decide)) (bx (ls_aI h 0 c (by decide) (Nat.lt_of_lt_of_le hc h3)) (iff_ (nI_ge hs h0) (gz (s := 1) (Or.inr rfl) rfl)))))
theorem ls_isSide_out (h : ls_M n σ B M) (h3 : σ 3 0 ≤ 120) (h0 : ∀ c, c < σ 3 0 → σ 0 c < 2 ^ 31) {x y : Int32} (hn : ¬ ls_sideI σ x y) : f_X10_isSide M (some (n + 31)) x y = some 0 := by
  refine bx (ls_rc h) (bx (ls_isCard h x) ?_)
  by_cases hx : 0 ≤ x ∧ x < nI (σ 3 0)
  · rw [if_pos hx]
    obtain ⟨c, hc, rfl⟩ := pe_arg (by omega) hx.1 hx.2
    refine iff_ (by decide) ?_
    by_cases hy : y < 0
    · exact ift hy (gz (s := 0) (Or.inl rfl) rfl)
    · refine iff_ hy (bx (ls_fR h 0 (by decide)) (bx (ls_aI h 0 c (by decide) (Nat.lt_of_lt_of_le hc h3)) ?_))
      by_cases hz : nI (σ 0 c) ≤ y
      · exact ift hz (gz (s := 0) (Or.inl rfl) rfl)
      · obtain ⟨s, hs, rfl⟩ := pe_arg (h0 c hc) (Int32.not_lt.mp hy) (Int32.not_le.mp hz)
        exact absurd ⟨c, s, hc, hs, rfl, rfl⟩ hn
  · rw [if_neg hx]
    exact ift rfl (gz (s := 0) (Or.inl rfl) rfl)
-- a memory, taken and given
theorem ls_take (h : ls_M n σ B M) {q : Nat} (hq : q < 1920) : ∃ M1 τ, f_X10_take M (some (n + 31)) (nI q) = some M1 ∧ ls_M n τ B M1 ∧ ls_v σ τ ∧ ls_sc τ = ls_at σ q := by
  obtain ⟨M1, e1, h1⟩ := ls_pI h 29 (σ 13 q) (by decide)
  obtain ⟨M2, e2, h2⟩ := ls_pI h1 30 (σ 14 q) (by decide)
  obtain ⟨M3, e3, h3⟩ := ls_pI h2 31 (σ 15 q) (by decide)
  obtain ⟨M4, e4, h4⟩ := ls_pI h3 32 (σ 16 q) (by decide)
  obtain ⟨M5, e5, h5⟩ := ls_pI h4 33 (σ 17 q) (by decide)
  refine ⟨M5, _, ?_, h5, ?_, rfl⟩
  · refine bx (ls_fR h 13 (by decide)) (bx (ls_aI h 13 q (by decide) hq) (bx e1 ?_))
    refine bx (ls_fR h1 14 (by decide)) (bx (ls_aI h1 14 q (by decide) hq) (bx e2 ?_))
    refine bx (ls_fR h2 15 (by decide)) (bx (ls_aI h2 15 q (by decide) hq) (bx e3 ?_))
    refine bx (ls_fR h3 16 (by decide)) (bx (ls_aI h3 16 q (by decide) hq) (bx e4 ?_))
    exact bx (ls_fR h4 17 (by decide)) (bx (ls_aI h4 17 q (by decide) hq) (bx e5 rfl))
  · refine ls_v_u (ls_v_u (ls_v_u (ls_v_u (ls_v_u (ls_v_rf σ) ?_) ?_) ?_) ?_) ?_ <;> (unfold ls_nx; omega)
/-- a memory written at a place -/
def ls_pt (σ : ls_S) (q : Nat) (v : ls_V) : ls_S := mm_u (mm_u (mm_u (mm_u (mm_u σ 13 q v.1) 14 q v.2.1) 15 q v.2.2.1) 16 q v.2.2.2.1) 17 q v.2.2.2.2
theorem ls_give (h : ls_M n σ B M) {q : Nat} (hq : q < 1920) : ∃ M1, f_X10_give M (some (n + 31)) (nI q) = some M1 ∧ ls_M n (ls_pt σ q (ls_sc σ)) B M1 := by
  obtain ⟨M1, e1, h1⟩ := ls_tI h 13 q (σ 29 0) (by decide) rfl hq
  obtain ⟨M2, e2, h2⟩ := ls_tI h1 14 q (σ 30 0) (by decide) rfl hq
  obtain ⟨M3, e3, h3⟩ := ls_tI h2 15 q (σ 31 0) (by decide) rfl hq
  obtain ⟨M4, e4, h4⟩ := ls_tI h3 16 q (σ 32 0) (by decide) rfl hq
  obtain ⟨M5, e5, h5⟩ := ls_tI h4 17 q (σ 33 0) (by decide) rfl hq
  refine ⟨M5, ?_, h5⟩
  refine bx (ls_fR h 13 (by decide)) (bx (ls_fI h 29 (by decide)) (bx e1 ?_))
  refine bx (ls_fR h1 14 (by decide)) (bx (ls_fI h1 30 (by decide)) (bx e2 ?_))
  refine bx (ls_fR h2 15 (by decide)) (bx (ls_fI h2 31 (by decide)) (bx e3 ?_))
  refine bx (ls_fR h3 16 (by decide)) (bx (ls_fI h3 32 (by decide)) (bx e4 ?_))
  exact bx (ls_fR h4 17 (by decide)) (bx (ls_fI h4 33 (by decide)) (bx e5 rfl))
theorem ls_begin (h : ls_M n σ B M) : ∃ M1 τ, f_X10_begin M (some (n + 31)) = some M1 ∧ ls_M n τ B M1 ∧ ls_v σ τ ∧ ls_sc τ = (0, 2500, 0, 0, 0) := by
  obtain ⟨M1, e1, h1⟩ := ls_pI h 29 0 (by decide)
  obtain ⟨M2, e2, h2⟩ := ls_pI h1 30 2500 (by decide)
  obtain ⟨M3, e3, h3⟩ := ls_pI h2 31 0 (by decide)
  obtain ⟨M4, e4, h4⟩ := ls_pI h3 32 0 (by decide)
  obtain ⟨M5, e5, h5⟩ := ls_pI h4 33 0 (by decide)
  refine ⟨M5, _, ?_, h5, ?_, rfl⟩
  · exact bx e1 (bx e2 (bx e3 (bx e4 (bx e5 rfl))))
  · refine ls_v_u (ls_v_u (ls_v_u (ls_v_u (ls_v_u (ls_v_rf σ) ?_) ?_) ?_) ?_) ?_ <;> (unfold ls_nx; omega)
-- the curve
theorem ls_F_le : ∀ k, ls_F k ≤ 1000
  | 0 => Nat.le_refl _
  | k + 1 => by
    have := ls_F_le k
    unfold ls_F
    omega
theorem ls_F_an {a b : Nat} (h : a ≤ b) : ls_F b ≤ ls_F a := by
  induction h with
  | refl => exact Nat.le_refl _
  | step _ ih => rename_i m _; exact Nat.le_trans (by show ls_F m * 9934 / 10000 ≤ _; omega) ih
theorem ls_sbd {a d : Nat} (h : d ≤ a + 1) : nI a - (nI d - 1) = nI (a + 1 - d) := by
  cases d with
  | zero => rw [show nI 0 - 1 = (-1 : Int32) by decide, Int32.sub_eq_add_neg, show -(-1 : Int32) = 1 by decide, nI_1]; rfl
  | succ d => rw [nI_pred, pk_sub (by omega)]; congr 1; omega
theorem ls_q {v : ls_V} {on : Nat} (h0 : 0 < v.1) (hd : v.2.2.2.1 ≤ on + 1) (hon : on ≤ 200000) : 16000 * (on + 1 - v.2.2.2.1) < 2 ^ 32 ∧ 16000 * (on + 1 - v.2.2.2.1) / v.1 < 2 ^ 32 := by
  have : 16000 * (on + 1 - v.2.2.2.1) / v.1 ≤ 16000 * (on + 1 - v.2.2.2.1) := Nat.div_le_self _ _
  omega
theorem ls_chance {v : ls_V} (h : ls_M n σ B M) (hv : ls_sc σ = v) {on : Nat} (h0 : 0 < v.1) (h1 : v.1 ≤ 4000000) (hd : v.2.2.2.1 ≤ on + 1) (hon : on ≤ 200000) : f_X10_chance M (some (n + 31)) (nI on) = some (nI (ls_ch v on)) := by
  have e1 : σ 29 0 = v.1 := congrArg (fun x => x.1) hv
  have e2 : σ 32 0 = v.2.2.2.1 := congrArg (fun x => x.2.2.2.1) hv
  obtain ⟨q1, q2⟩ := ls_q h0 hd hon
  refine bx (ls_fI h 32 (by decide)) (bx (ls_fI h 29 (by decide)) (bx (a := lN (16000 * (on + 1 - v.2.2.2.1) / v.1)) ?_ ?_))
  · have e3 : nI on - ls_en 32 (σ 32 0) = nI (on + 1 - v.2.2.2.1) := by rw [← e2]; exact ls_sbd (by rw [e2]; exact hd)
    rw [e3, nI_l (by omega)]
    have e4 : (ls_en 29 (σ 29 0)).toInt64 = lN v.1 := by rw [← e1]; exact nI_l (by omega)
    rw [e4, show (16000 : Int64) * lN (on + 1 - v.2.2.2.1) = lN (16000 * (on + 1 - v.2.2.2.1)) from lN_mul 16000 _]
    refine (if_neg (show ¬ lN v.1 = lN 0 from fun q => by have := (pk_lEQ (by omega) (by omega)).mp q; omega)).trans ?_
    rw [pk_lDiv (by omega) h0 (by omega)]
  · obtain ⟨r, hr, rfl⟩ := pe_loop (body := fun x : Int32 × Int64 => f_X10_chance_26 M (lN (16000 * (on + 1 - v.2.2.2.1) / v.1)) x.1 x.2) (x := (1000, 0)) (fun i x => x = (nI (ls_F i), lN i)) (fun r => r = nI (ls_ch v on)) (16000 * (on + 1 - v.2.2.2.1) / v.1) rfl (by
      rintro i x hi rfl
      by_cases h2 : i = 16000 * (on + 1 - v.2.2.2.1) / v.1
      · refine Or.inr ⟨nI (ls_F i), ift ((lg_ge _ _).mpr ((pk_lLE (by omega) (by omega)).mpr (by omega))) (mpx rfl), ?_⟩
        rw [h2]; rfl
      · by_cases h3 : ls_F i = 0
        · refine Or.inr ⟨nI (ls_F i), iff_ (fun q => h2 ?_) (ift ?_ (mpx rfl)), ?_⟩
          · have := (pk_lLE (by omega) (by omega)).mp ((lg_ge _ _).mp q); omega
          · show nI (ls_F i) ≤ 0
            rw [h3]; decide
          · have : ls_ch v on ≤ ls_F i := ls_F_an hi
            congr 1; omega
        · refine Or.inl ⟨(nI (ls_F (i + 1)), lN (i + 1)), iff_ (fun q => h2 ?_) (iff_ ?_ ?_), rfl, by omega⟩
          · have := (pk_lLE (by omega) (by omega)).mp ((lg_ge _ _).mp q); omega
          · have := ls_F_le i
            exact nI_nle (by omega) (by omega)
          · have := ls_F_le i
            have e5 : nI (ls_F i) * 9934 / 10000 = nI (ls_F (i + 1)) := by
              rw [show nI (ls_F i) * 9934 = nI (ls_F i * 9934) from pk_mul _ 9934]
              exact pk_div (d := 10000) (by omega) (by omega) (by omega)
            show some (Sum.inl (nI (ls_F i) * 9934 / 10000, lN i + 1)) = _
            rw [e5, lN_1])
    exact hr
-- bounds kept
theorem ls_kept (M : mm_M) {a b c : Nat} (ha : a < 2 ^ 63) (hb : b < 2 ^ 63) (hc : c < 2 ^ 63) : f_X10_kept M (lN a) (lN b) (lN c) = some (lN (ls_kp a b c)) := by
  unfold ls_kp
  by_cases h : a < b
  · rw [if_pos h]
    exact iff_ (fun q => by have := (pk_lLE hb ha).mp ((lg_ge _ _).mp q); omega) rfl
  · rw [if_neg h]
    refine ift ((lg_ge _ _).mpr ((pk_lLE hb ha).mpr (by omega))) ?_
    by_cases h2 : c < a
    · rw [if_pos h2]
      exact iff_ (fun q => by have := (pk_lLE ha hc).mp ((lg_le _ _).mp q); omega) rfl
    · rw [if_neg h2]
      exact ift ((lg_le _ _).mpr ((pk_lLE ha hc).mpr (by omega))) rfl
theorem ls_kp_b (a b c : Nat) (h : b ≤ c) : b ≤ ls_kp a b c ∧ ls_kp a b c ≤ c := by
  unfold ls_kp
  split
  · omega
  · split <;> omega
theorem ls_isLeech (h : ls_M n σ B M) (h2 : σ 33 0 < 2 ^ 31) : f_X10_isLeech M (some (n + 31)) = some (if σ 33 0 < 8 then 0 else 1) := by
  refine bx (ls_fI h 33 (by decide)) ?_
  by_cases h3 : σ 33 0 < 8
  · have e : (if σ 33 0 < 8 then (0 : Int32) else 1) = 0 := if_pos h3
    rw [e]
    exact ift (show nI (σ 33 0) < nI 8 from nI_lt h3 (by omega)) (gz (s := 0) (Or.inl rfl) rfl)
  · have e : (if σ 33 0 < 8 then (0 : Int32) else 1) = 1 := if_neg h3
    rw [e]
    exact iff_ (show ¬ nI (σ 33 0) < nI 8 from nI_nlt (by omega) h2) (gz (s := 1) (Or.inr rfl) rfl)
theorem ls_isDue {v : ls_V} (h : ls_M n σ B M) (hv : ls_sc σ = v) {on : Nat} (hk : ls_ok v on) (hon : on ≤ 200000) : f_X10_isDue M (some (n + 31)) (nI on) = some (if ls_due v on then 1 else 0) := by
  have e1 : σ 29 0 = v.1 := congrArg (fun x => x.1) hv
  have e2 : σ 33 0 = v.2.2.2.2 := congrArg (fun x => x.2.2.2.2) hv
  obtain ⟨k1, k2, k3, k4, k5, k6, k7⟩ := hk
  have hc : ls_ch v on ≤ 1000 := ls_F_le _
  refine bx (ls_fI h 29 (by decide)) ?_
  by_cases hs : v.1 = 0
  · have e : (if ls_due v on then (1 : Int32) else 0) = 0 := if_neg (fun q => by have := q.1; omega)
    rw [e]
    exact ift (show nI (σ 29 0) ≤ 0 by rw [e1, hs]; decide) (gz (s := 0) (Or.inl rfl) rfl)
  · refine iff_ (show ¬ nI (σ 29 0) ≤ 0 by rw [e1]; exact nI_nle (by omega) (by omega)) (bx (ls_rc h) (bx (ls_isLeech h (by omega)) ?_))
    by_cases ha : v.2.2.2.2 < 8
    · have e3 : (if σ 33 0 < 8 then (0 : Int32) else 1) = 0 := if_pos (by omega)
      refine ift e3 (bx (ls_rc h) (bx (ls_chance h hv (by omega) k2 k6 hon) ?_))
      by_cases hd : ls_ch v on < 900
      · have e : (if ls_due v on then (1 : Int32) else 0) = 1 := if_pos ⟨by omega, ha, hd⟩
        rw [e]
        exact iff_ (show ¬ nI 900 ≤ nI (ls_ch v on) from nI_ge hd (by omega)) (gz (s := 1) (Or.inr rfl) rfl)
      · have e : (if ls_due v on then (1 : Int32) else 0) = 0 := if_neg (fun q => hd q.2.2)
        rw [e]
        exact ift (show nI 900 ≤ nI (ls_ch v on) from nI_le (by omega) (by omega)) (gz (s := 0) (Or.inl rfl) rfl)
    · have e3 : (if σ 33 0 < 8 then (0 : Int32) else 1) = 1 := if_neg (by omega)
      have e : (if ls_due v on then (1 : Int32) else 0) = 0 := if_neg (fun q => ha q.2.1)
      rw [e]
      exact iff_ (by rw [e3]; decide) (gz (s := 0) (Or.inl rfl) rfl)
end
