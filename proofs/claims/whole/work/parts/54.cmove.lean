section
variable {n : Nat} {M : mm_M} {a : Nat} {v : ls_V}
theorem lc_pp (h : mm_k M a = some (9, 0)) {k : Nat} (hk : k < 5) (x : Int32) : mm_pI M (some a) 9 k x = some (mm_sI M a k x) ∧ lc_df M (mm_sI M a k x) a := ⟨pe_pI k x h, lc_df_I (lc_df_rf M a) hk x⟩
theorem lc_u0 (h : lc_at M a v) (x : Nat) : ∃ M1, mm_pI M (some a) 9 0 (nI x) = some M1 ∧ lc_df M M1 a ∧ lc_at M1 a (x, v.2.1, v.2.2.1, v.2.2.2.1, v.2.2.2.2) := by
  refine ⟨_, (lc_pp h.1 (by omega) _).1, (lc_pp h.1 (by omega) _).2, h.1, ?_, ?_, ?_, ?_, ?_⟩
  · rw [mm_II, if_pos ⟨rfl, rfl⟩]
  · rw [mm_II, if_neg (by omega)]; exact h.2.2.1
  · rw [mm_II, if_neg (by omega)]; exact h.2.2.2.1
  · rw [mm_II, if_neg (by omega)]; exact h.2.2.2.2.1
  · rw [mm_II, if_neg (by omega)]; exact h.2.2.2.2.2
theorem lc_u1 (h : lc_at M a v) (x : Nat) : ∃ M1, mm_pI M (some a) 9 1 (nI x) = some M1 ∧ lc_df M M1 a ∧ lc_at M1 a (v.1, x, v.2.2.1, v.2.2.2.1, v.2.2.2.2) := by
  refine ⟨_, (lc_pp h.1 (by omega) _).1, (lc_pp h.1 (by omega) _).2, h.1, ?_, ?_, ?_, ?_, ?_⟩
  · rw [mm_II, if_neg (by omega)]; exact h.2.1
  · rw [mm_II, if_pos ⟨rfl, rfl⟩]
  · rw [mm_II, if_neg (by omega)]; exact h.2.2.2.1
  · rw [mm_II, if_neg (by omega)]; exact h.2.2.2.2.1
  · rw [mm_II, if_neg (by omega)]; exact h.2.2.2.2.2
theorem lc_u2 (h : lc_at M a v) (x : Nat) : ∃ M1, mm_pI M (some a) 9 2 (nI x) = some M1 ∧ lc_df M M1 a ∧ lc_at M1 a (v.1, v.2.1, x, v.2.2.2.1, v.2.2.2.2) := by
  refine ⟨_, (lc_pp h.1 (by omega) _).1, (lc_pp h.1 (by omega) _).2, h.1, ?_, ?_, ?_, ?_, ?_⟩
  · rw [mm_II, if_neg (by omega)]; exact h.2.1
  · rw [mm_II, if_neg (by omega)]; exact h.2.2.1
  · rw [mm_II, if_pos ⟨rfl, rfl⟩]
  · rw [mm_II, if_neg (by omega)]; exact h.2.2.2.2.1
  · rw [mm_II, if_neg (by omega)]; exact h.2.2.2.2.2
theorem lc_u3 (h : lc_at M a v) (x : Nat) : ∃ M1, mm_pI M (some a) 9 3 (nI x - 1) = some M1 ∧ lc_df M M1 a ∧ lc_at M1 a (v.1, v.2.1, v.2.2.1, x, v.2.2.2.2) := by
  refine ⟨_, (lc_pp h.1 (by omega) _).1, (lc_pp h.1 (by omega) _).2, h.1, ?_, ?_, ?_, ?_, ?_⟩
  · rw [mm_II, if_neg (by omega)]; exact h.2.1
  · rw [mm_II, if_neg (by omega)]; exact h.2.2.1
  · rw [mm_II, if_neg (by omega)]; exact h.2.2.2.1
  · rw [mm_II, if_pos ⟨rfl, rfl⟩]
  · rw [mm_II, if_neg (by omega)]; exact h.2.2.2.2.2
theorem lc_u4 (h : lc_at M a v) (x : Nat) : ∃ M1, mm_pI M (some a) 9 4 (nI x) = some M1 ∧ lc_df M M1 a ∧ lc_at M1 a (v.1, v.2.1, v.2.2.1, v.2.2.2.1, x) := by
  refine ⟨_, (lc_pp h.1 (by omega) _).1, (lc_pp h.1 (by omega) _).2, h.1, ?_, ?_, ?_, ?_, ?_⟩
  · rw [mm_II, if_neg (by omega)]; exact h.2.1
  · rw [mm_II, if_neg (by omega)]; exact h.2.2.1
  · rw [mm_II, if_neg (by omega)]; exact h.2.2.2.1
  · rw [mm_II, if_neg (by omega)]; exact h.2.2.2.2.1
  · rw [mm_II, if_pos ⟨rfl, rfl⟩]
/-- another memory is what it was -/
theorem lc_at_df {M1 : mm_M} {b : Nat} {w : ls_V} (h : lc_at M b w) (hd : lc_df M M1 a) (hne : b ≠ a) : lc_at M1 b w := by
  have e : ∀ k, mm_I M1 b k = mm_I M b k := fun k => hd.2.2 b k (fun q => hne q.1)
  exact ⟨(lc_df_k hd b).trans h.1, (e 0).trans h.2.1, (e 1).trans h.2.2.1, (e 2).trans h.2.2.2.1, (e 3).trans h.2.2.2.2.1, (e 4).trans h.2.2.2.2.2⟩
theorem lc_forget (h : lc_at M a v) : ∃ M1, f_X8_forget M (some a) = some M1 ∧ lc_df M M1 a ∧ lc_at M1 a (0, 2500, 0, 0, 0) := by
  obtain ⟨M1, e1, d1, h1⟩ := lc_u0 h 0
  obtain ⟨M2, e2, d2, h2⟩ := lc_u1 h1 2500
  obtain ⟨M3, e3, d3, h3⟩ := lc_u2 h2 0
  obtain ⟨M4, e4, d4, h4⟩ := lc_u3 h3 0
  obtain ⟨M5, e5, d5, h5⟩ := lc_u4 h4 0
  exact ⟨M5, bx e1 (bx e2 (bx e3 (bx e4 (bx e5 rfl)))), lc_df_tr d1 (lc_df_tr d2 (lc_df_tr d3 (lc_df_tr d4 d5))), h5⟩
theorem lc_become {b : Nat} {w : ls_V} (h : lc_at M a v) (hw : lc_at M b w) (hne : b ≠ a) : ∃ M1, f_X8_become M (some a) (some b) = some M1 ∧ lc_df M M1 a ∧ lc_at M1 a w := by
  obtain ⟨M1, e1, d1, h1⟩ := lc_u0 h w.1
  have w1 := lc_at_df hw d1 hne
  obtain ⟨M2, e2, d2, h2⟩ := lc_u1 h1 w.2.1
  have w2 := lc_at_df w1 d2 hne
  obtain ⟨M3, e3, d3, h3⟩ := lc_u2 h2 w.2.2.1
  have w3 := lc_at_df w2 d3 hne
  obtain ⟨M4, e4, d4, h4⟩ := lc_u3 h3 w.2.2.2.1
  have w4 := lc_at_df w3 d4 hne
  obtain ⟨M5, e5, d5, h5⟩ := lc_u4 h4 w.2.2.2.2
  refine ⟨M5, ?_, lc_df_tr d1 (lc_df_tr d2 (lc_df_tr d3 (lc_df_tr d4 d5))), h5⟩
  refine bx (pe_fI 0 hw.1) (bx (a := M1) (by rw [hw.2.1]; exact e1) ?_)
  refine bx (pe_fI 1 w1.1) (bx (a := M2) (by rw [w1.2.2.1]; exact e2) ?_)
  refine bx (pe_fI 2 w2.1) (bx (a := M3) (by rw [w2.2.2.2.1]; exact e3) ?_)
  refine bx (pe_fI 3 w3.1) (bx (a := M4) (by rw [w3.2.2.2.2.1]; exact e4) ?_)
  exact bx (pe_fI 4 w4.1) (bx (a := M5) (by rw [w4.2.2.2.2.2]; exact e5) rfl)
theorem lc_bS (M : mm_M) {x : Nat} (hx : x < 2 ^ 63) : f_X8_boundedStrength M (lN x) = some (nI (ls_kp x 500 4000000)) := by
  show some ((if (if lN x < lN 4000000 then lN x else lN 4000000) < lN 500 then lN 500 else (if lN x < lN 4000000 then lN x else lN 4000000)).toInt32) = _
  unfold ls_kp
  by_cases h1 : x < 4000000
  · rw [if_pos ((pk_lLT hx (by omega)).mpr h1)]
    by_cases h2 : x < 500
    · rw [if_pos ((pk_lLT hx (by omega)).mpr h2), if_pos h2, lN_i]
    · rw [if_neg (fun q => h2 ((pk_lLT hx (by omega)).mp q)), if_neg h2, if_neg (by omega), lN_i]
  · rw [if_neg (fun q => h1 ((pk_lLT hx (by omega)).mp q)), if_neg (fun q => by have := (pk_lLT (by omega) (by omega)).mp q; omega), if_neg (show ¬ x < 500 by omega), lN_i]
    by_cases h2 : 4000000 < x
    · rw [if_pos h2]
    · rw [if_neg h2]; congr 2; omega
theorem lc_bE (M : mm_M) {x : Nat} (hx : x < 2 ^ 31) : f_X8_boundedEase M (nI x) = some (nI (ls_kp x 1300 3500)) := by
  show some (if nI 1300 < (if nI x < nI 3500 then nI x else nI 3500) then (if nI x < nI 3500 then nI x else nI 3500) else nI 1300) = _
  unfold ls_kp
  by_cases h1 : x < 3500
  · rw [if_pos (nI_lt h1 (by omega))]
    by_cases h2 : 1300 < x
    · rw [if_pos (nI_lt h2 hx), if_neg (show ¬ x < 1300 by omega), if_neg (by omega)]
    · rw [if_neg (nI_nlt (by omega) (by omega))]
      by_cases h3 : x < 1300
      · rw [if_pos h3]
      · rw [if_neg h3, if_neg (by omega)]; congr 2; omega
  · rw [if_neg (nI_nlt (by omega) hx), if_pos (nI_lt (by omega) (by omega)), if_neg (show ¬ x < 1300 by omega)]
    by_cases h2 : 3500 < x
    · rw [if_pos h2]
    · rw [if_neg h2]; congr 2; omega
theorem ls_kp_id {x b c : Nat} (h1 : b ≤ x) (h2 : x ≤ c) : ls_kp x b c = x := by
  unfold ls_kp
  rw [if_neg (by omega), if_neg (by omega)]
theorem lc_mvB (h : lc_at M a v) {ac : Nat} (ha : ac ≤ 3) (h5 : v.2.2.1 ≤ 9) : ∃ M1, f_X8_moveByBoxes M (some a) (nI ac) = some M1 ∧ lc_df M M1 a ∧ lc_at M1 a (1000 * 2 ^ (if ac = 0 then 0 else if 9 < v.2.2.1 + ac - 1 then 9 else v.2.2.1 + ac - 1), v.2.1, (if ac = 0 then 0 else if 9 < v.2.2.1 + ac - 1 then 9 else v.2.2.1 + ac - 1), v.2.2.2.1, v.2.2.2.2) := by
  have key : ∀ b1, b1 ≤ 9 → ∀ M1, lc_df M M1 a → lc_at M1 a (v.1, v.2.1, b1, v.2.2.2.1, v.2.2.2.2) → ∃ M2, f_X8_moveByBoxes_29 M1 (some a) = some M2 ∧ lc_df M M2 a ∧ lc_at M2 a (1000 * 2 ^ b1, v.2.1, b1, v.2.2.2.1, v.2.2.2.2) := by
    intro b1 h9 M1 d1 h1
    obtain ⟨M2, e2, d2, h2⟩ := lc_u0 h1 (1000 * 2 ^ b1)
    refine ⟨M2, bx (pe_fI 2 h1.1) (bx (a := M2) ?_ rfl), lc_df_tr d1 d2, h2⟩
    rw [h1.2.2.2.1]
    have e4 : ∀ b1, b1 ≤ 9 → (1000 : Int32) <<< (nI b1 &&& 31) = nI (1000 * 2 ^ b1) := by
      intro b1 h9
      have : b1 = 0 ∨ b1 = 1 ∨ b1 = 2 ∨ b1 = 3 ∨ b1 = 4 ∨ b1 = 5 ∨ b1 = 6 ∨ b1 = 7 ∨ b1 = 8 ∨ b1 = 9 := by omega
      rcases this with rfl | rfl | rfl | rfl | rfl | rfl | rfl | rfl | rfl | rfl <;> decide
    rw [e4 b1 h9]
    exact e2
  by_cases h0 : ac = 0
  · subst h0
    obtain ⟨M1, e1, d1, h1⟩ := lc_u2 h 0
    obtain ⟨M2, e2, d2, h2⟩ := key 0 (by omega) M1 d1 h1
    exact ⟨M2, (bx e1 e2 : f_X8_moveByBoxes_4 M (some a) = some M2), d2, h2⟩
  · rw [if_neg h0]
    have e5 : nI v.2.2.1 + nI ac - 1 = nI (v.2.2.1 + ac - 1) := by rw [nI_add]; exact pk_sub (b := 1) (by omega)
    have hb : (if 9 < v.2.2.1 + ac - 1 then 9 else v.2.2.1 + ac - 1) ≤ 9 := by split <;> omega
    obtain ⟨M1, e1, d1, h1⟩ := lc_u2 h (if 9 < v.2.2.1 + ac - 1 then 9 else v.2.2.1 + ac - 1)
    obtain ⟨M2, e2, d2, h2⟩ := key _ hb M1 d1 h1
    refine ⟨M2, iff_ (show ¬ nI ac = nI 0 from fun q => h0 ((nI_eq (by omega) (by omega)).mp q)) (bx (pe_fI 2 h.1) (bx (a := M1) ?_ e2)), d2, h2⟩
    rw [h.2.2.2.1, e5, ← e1]
    congr 1
    by_cases h9 : 9 < v.2.2.1 + ac - 1
    · rw [if_pos h9]
      exact if_neg (show ¬ nI (v.2.2.1 + ac - 1) < nI 9 from nI_nlt (by omega) (by omega))
    · rw [if_neg h9]
      by_cases h8 : v.2.2.1 + ac - 1 < 9
      · exact if_pos (show nI (v.2.2.1 + ac - 1) < nI 9 from nI_lt h8 (by omega))
      · rw [show v.2.2.1 + ac - 1 = 9 by omega]; decide
theorem lc_mvS (h : lc_at M a v) {ac c : Nat} (ha : ac ≤ 3) (hc : c ≤ 1000) (hs : v.1 ≤ 4000000) (he : 1300 ≤ v.2.1 ∧ v.2.1 ≤ 3500) : ∃ M1, f_X8_moveByStrengths M (some a) (nI ac) (nI c) = some M1 ∧ lc_df M M1 a ∧ lc_at M1 a (ls_kp (ls_bS ac c v.1 v.2.1) 500 4000000, ls_kp (ls_bE ac v.2.1) 1300 3500, v.2.2.1, v.2.2.2.1, v.2.2.2.2) := by
  obtain ⟨b1, b2, b3⟩ := ls_bs_b hc hs he
  have eS : (nI v.1).toInt64 = lN v.1 := nI_l (by omega)
  have eG : ((nI v.1).toInt64 * ((1000 + ((nI v.2.1 - 1000) * (1900 - nI c)) / 1000) : Int32).toInt64) / 1000 = lN (v.1 * (1000 + (v.2.1 - 1000) * (1900 - c) / 1000) / 1000) := by
    rw [show nI v.2.1 - 1000 = nI (v.2.1 - 1000) from pk_sub (b := 1000) (by omega), show (1900 : Int32) - nI c = nI (1900 - c) from pk_sub (a := 1900) (by omega), pk_mul, show nI ((v.2.1 - 1000) * (1900 - c)) / 1000 = nI ((v.2.1 - 1000) * (1900 - c) / 1000) from pk_div (d := 1000) (by omega) (by omega) (by omega)]
    rw [show (1000 : Int32) + nI ((v.2.1 - 1000) * (1900 - c) / 1000) = nI (1000 + (v.2.1 - 1000) * (1900 - c) / 1000) from nI_add 1000 _, eS, nI_l (by omega), lN_mul]
    exact pk_lDiv (b := 1000) (by omega) (by omega) (by omega)
  have h3 : ac = 0 ∨ ac = 1 ∨ ac = 2 ∨ ac = 3 := by omega
  rcases h3 with rfl | rfl | rfl | rfl
  · obtain ⟨M1, e1, d1, h1⟩ := lc_u0 h (ls_kp (v.1 / 5) 500 4000000)
    obtain ⟨M2, e2, d2, h2⟩ := lc_u1 h1 (ls_kp (v.2.1 - 200) 1300 3500)
    refine ⟨M2, bx (pe_fI 0 h.1) (bx (pe_fI 1 h.1) (ift (by decide) (bx (pe_fI 0 h.1) (bx (a := nI (ls_kp (v.1 / 5) 500 4000000)) ?_ (bx e1 (bx (pe_fI 1 h1.1) (bx (a := nI (ls_kp (v.2.1 - 200) 1300 3500)) ?_ (bx e2 rfl)))))))), lc_df_tr d1 d2, h2⟩
    · rw [h.2.1, show nI v.1 / 5 = nI (v.1 / 5) from pk_div (d := 5) (by omega) (by omega) (by omega), nI_l (by omega)]
      exact lc_bS M (by omega)
    · rw [h1.2.2.1, show nI v.2.1 - 200 = nI (v.2.1 - 200) from pk_sub (b := 200) (by omega)]
      exact lc_bE M1 (by omega)
  · obtain ⟨M1, e1, d1, h1⟩ := lc_u0 h (ls_kp (v.1 * (1000 + (1200 - c)) / 1000) 500 4000000)
    obtain ⟨M2, e2, d2, h2⟩ := lc_u1 h1 (ls_kp (v.2.1 - 150) 1300 3500)
    refine ⟨M2, bx (pe_fI 0 h.1) (bx (pe_fI 1 h.1) (iff_ (by decide) (ift (by decide) (bx (pe_fI 0 h.1) (bx (a := nI (ls_kp (v.1 * (1000 + (1200 - c)) / 1000) 500 4000000)) ?_ (bx e1 (bx (pe_fI 1 h1.1) (bx (a := nI (ls_kp (v.2.1 - 150) 1300 3500)) ?_ (bx e2 rfl))))))))), lc_df_tr d1 d2, h2⟩
    · rw [h.2.1, show (1200 : Int32) - nI c = nI (1200 - c) from pk_sub (a := 1200) (by omega), show (1000 : Int32) + nI (1200 - c) = nI (1000 + (1200 - c)) from nI_add 1000 _, eS, nI_l (by omega), lN_mul, show lN (v.1 * (1000 + (1200 - c))) / 1000 = lN (v.1 * (1000 + (1200 - c)) / 1000) from pk_lDiv (b := 1000) (by omega) (by omega) (by omega)]
      exact lc_bS M (by omega)
    · rw [h1.2.2.1, show nI v.2.1 - 150 = nI (v.2.1 - 150) from pk_sub (b := 150) (by omega)]
      exact lc_bE M1 (by omega)
  · obtain ⟨M1, e1, d1, h1⟩ := lc_u0 h (ls_kp (v.1 * (1000 + (v.2.1 - 1000) * (1900 - c) / 1000) / 1000) 500 4000000)
    refine ⟨M1, bx (pe_fI 0 h.1) (bx (pe_fI 1 h.1) (iff_ (by decide) (iff_ (by decide) (ift (by decide) (bx (a := nI (ls_kp (v.1 * (1000 + (v.2.1 - 1000) * (1900 - c) / 1000) / 1000) 500 4000000)) ?_ (bx e1 rfl)))))), d1, ?_⟩
    · rw [h.2.1, h.2.2.1, eG]
      exact lc_bS M (by omega)
    · have e7 : ls_kp (ls_bE 2 v.2.1) 1300 3500 = v.2.1 := ls_kp_id he.1 he.2
      rw [e7]
      exact h1
  · obtain ⟨M1, e1, d1, h1⟩ := lc_u0 h (ls_kp (v.1 * (1000 + (v.2.1 - 1000) * (1900 - c) / 1000) / 1000 * 1300 / 1000) 500 4000000)
    obtain ⟨M2, e2, d2, h2⟩ := lc_u1 h1 (ls_kp (v.2.1 + 150) 1300 3500)
    refine ⟨M2, bx (pe_fI 0 h.1) (bx (pe_fI 1 h.1) (iff_ (by decide) (iff_ (by decide) (iff_ (by decide) (bx (a := nI (ls_kp (v.1 * (1000 + (v.2.1 - 1000) * (1900 - c) / 1000) / 1000 * 1300 / 1000) 500 4000000)) ?_ (bx e1 (bx (pe_fI 1 h1.1) (bx (a := nI (ls_kp (v.2.1 + 150) 1300 3500)) ?_ (bx e2 rfl))))))))), lc_df_tr d1 d2, h2⟩
    · rw [h.2.1, h.2.2.1, eG, show ∀ q, lN q * 1300 = lN (q * 1300) from fun q => lN_mul q 1300, show ∀ q, q < 2 ^ 63 → lN q / 1000 = lN (q / 1000) from fun q hq => pk_lDiv (b := 1000) hq (by omega) (by omega)]
      · exact lc_bS M (by omega)
      · omega
    · rw [h1.2.2.1, show nI v.2.1 + 150 = nI (v.2.1 + 150) from nI_add _ 150]
      exact lc_bE M1 (by omega)
theorem lc_mv70 (h : lc_at M a v) {ac on : Nat} (ha : ac ≤ 3) : ∃ M1, f_X8_move_70 M (some a) (nI ac) (nI on) = some M1 ∧ lc_df M M1 a ∧ lc_at M1 a (v.1, v.2.1, v.2.2.1, on + 1, v.2.2.2.2 + if ac = 0 then 1 else 0) := by
  by_cases h0 : ac = 0
  · subst h0
    obtain ⟨M1, e1, d1, h1⟩ := lc_u4 h (v.2.2.2.2 + 1)
    obtain ⟨M2, e2, d2, h2⟩ := lc_u3 h1 (on + 1)
    refine ⟨M2, ift (by decide) (bx (pe_fI 4 h.1) (bx (a := M1) ?_ (bx (a := M2) (by rw [← nI_pred on]; exact e2) rfl))), lc_df_tr d1 d2, h2⟩
    rw [h.2.2.2.2.2, nI_1]
    exact e1
  · obtain ⟨M2, e2, d2, h2⟩ := lc_u3 h (on + 1)
    refine ⟨M2, iff_ (show ¬ nI ac = nI 0 from fun q => h0 ((nI_eq (by omega) (by omega)).mp q)) (bx (a := M2) (by rw [← nI_pred on]; exact e2) rfl), d2, ?_⟩
    rw [if_neg h0]
    exact h2
theorem lc_firstStrength (M : mm_M) {ac : Nat} (ha : ac ≤ 3) : f_X8_firstStrength M (nI ac) = some (nI (if ac = 0 then 500 else if ac = 1 then 1000 else if ac = 3 then 6000 else 2500)) := by
  have h3 : ac = 0 ∨ ac = 1 ∨ ac = 2 ∨ ac = 3 := by omega
  rcases h3 with rfl | rfl | rfl | rfl
  · rfl
  · rfl
  · rfl
  · rfl
theorem lc_move (h : lc_at M a v) (hc : lc_cv n M) {r b ac on : Nat} (hr : r ≤ 2) (hb : b ≤ 100000) (ha : ac ≤ 3) (hk : ls_ok v on) (hon : on ≤ 110000) : ∃ M1, f_X8_move M (some a) (nI r) (nI ac) (nI b) (nI on) (some (n + 1)) = some M1 ∧ lc_df M M1 a ∧ lc_at M1 a (ls_aB r b ac on v) := by
  obtain ⟨k1, k2, k3, k4, k5, k6, k7⟩ := id hk
  unfold ls_aB
  by_cases hr0 : r = 0
  · subst hr0
    rw [if_pos rfl]
    obtain ⟨M1, e1, d1, h1⟩ := lc_mvB h ha k5
    obtain ⟨M2, e2, d2, h2⟩ := lc_mv70 h1 (ac := ac) (on := on) ha
    exact ⟨M2, (bx (pe_rc h.1) (bx e1 e2) : f_X8_move_4 M (some a) (nI ac) (nI on) = some M2), lc_df_tr d1 d2, h2⟩
  · rw [if_neg hr0]
    refine Exists.imp (fun M1 => And.imp_left (fun q => iff_ (show ¬ nI r = nI 0 from fun q => hr0 ((nI_eq (by omega) (by omega)).mp q)) q)) ?_
    refine Exists.imp (fun M1 => And.imp_left (fun q => bx (pe_rc h.1) (bx (lc_isFresh h (by omega)) q))) ?_
    by_cases h0 : v.1 = 0
    · rw [if_pos h0, if_pos h0]
      obtain ⟨M1, e1, d1, h1⟩ := lc_u0 h (if ac = 0 then 500 else if ac = 1 then 1000 else if ac = 3 then 6000 else 2500)
      obtain ⟨M2, e2, d2, h2⟩ := lc_mv70 h1 (ac := ac) (on := on) ha
      exact ⟨M2, iff_ ne10 (bx (lc_firstStrength M ha) (bx e1 e2)), lc_df_tr d1 d2, h2⟩
    · rw [if_neg h0, if_neg h0]
      refine Exists.imp (fun M1 => And.imp_left (fun q => ift rfl q)) ?_
      by_cases hr2 : r = 2
      · subst hr2
        rw [if_pos rfl]
        have hm : v.1 * b ≤ 4000000 * 100000 := Nat.mul_le_mul k2 hb
        obtain ⟨M1, e1, d1, h1⟩ := lc_u0 h (ls_kp (v.1 * b / 1000) 500 4000000)
        obtain ⟨M2, e2, d2, h2⟩ := lc_mv70 h1 (ac := ac) (on := on) ha
        refine ⟨M2, iff_ (by decide) (bx (pe_fI 0 h.1) (bx (a := nI (ls_kp (v.1 * b / 1000) 500 4000000)) ?_ (bx e1 e2))), lc_df_tr d1 d2, h2⟩
        rw [h.2.1, nI_l (by omega), nI_l (by omega), lN_mul, show lN (v.1 * b) / 1000 = lN (v.1 * b / 1000) from pk_lDiv (b := 1000) (by omega) (by omega) (by omega)]
        exact lc_bS M (by omega)
      · rw [if_neg hr2]
        have hF : ls_ch v on ≤ 1000 := ls_F_le _
        obtain ⟨M1, e1, d1, h1⟩ := lc_mvS h (ac := ac) (c := ls_ch v on) ha hF k2 ⟨k3, k4⟩
        obtain ⟨M2, e2, d2, h2⟩ := lc_mv70 h1 (ac := ac) (on := on) ha
        refine ⟨M2, ift (show nI r = nI 1 by congr 1; omega) (bx (pe_rc h.1) (bx (a := nI (ls_ch v on)) ?_ (bx (pe_rc h.1) (bx e1 e2)))), lc_df_tr d1 d2, h2⟩
        have := lc_chanceOn h hc hk hon
        rw [if_neg h0] at this
        exact this
theorem lc_isLike {b : Nat} {w : ls_V} (h : lc_at M a v) (hw : lc_at M b w) {t u : Nat} (hv : ls_ok v t) (hw2 : ls_ok w u) (ht : t ≤ 200000) (hu : u ≤ 200000) : f_X8_isLike M (some a) (some b) = some (if v = w then 1 else 0) := by
  obtain ⟨k1, k2, k3, k4, k5, k6, k7⟩ := hv
  obtain ⟨l1, l2, l3, l4, l5, l6, l7⟩ := hw2
  obtain ⟨v1, v2, v3, v4, v5⟩ := v
  obtain ⟨w1, w2, w3, w4, w5⟩ := w
  simp only at k1 k2 k3 k4 k5 k6 k7 l1 l2 l3 l4 l5 l6 l7
  have no : ¬ ((v1, v2, v3, v4, v5) = (w1, w2, w3, w4, w5)) → f_X8_isLike_59 M = some (if ((v1, v2, v3, v4, v5) : ls_V) = (w1, w2, w3, w4, w5) then 1 else 0) := fun q => by
    rw [if_neg q]
    exact gz (s := 0) (Or.inl rfl) rfl
  refine bx (pe_fI 0 h.1) (bx (pe_fI 0 hw.1) ?_)
  rw [h.2.1, hw.2.1]
  by_cases c1 : v1 = w1
  · refine ift (by rw [c1]) (bx (pe_fI 1 h.1) (bx (pe_fI 1 hw.1) ?_))
    rw [h.2.2.1, hw.2.2.1]
    by_cases c2 : v2 = w2
    · refine ift (by rw [c2]) (bx (pe_fI 2 h.1) (bx (pe_fI 2 hw.1) ?_))
      rw [h.2.2.2.1, hw.2.2.2.1]
      by_cases c3 : v3 = w3
      · refine ift (by rw [c3]) (bx (pe_fI 3 h.1) (bx (pe_fI 3 hw.1) ?_))
        rw [h.2.2.2.2.1, hw.2.2.2.2.1]
        by_cases c4 : v4 = w4
        · refine ift (by rw [c4]) (bx (pe_fI 4 h.1) (bx (pe_fI 4 hw.1) ?_))
          rw [h.2.2.2.2.2, hw.2.2.2.2.2]
          by_cases c5 : v5 = w5
          · refine ift (by rw [c5]) ?_
            rw [if_pos (by rw [c1, c2, c3, c4, c5])]
            exact gz (s := 1) (Or.inr rfl) rfl
          · exact iff_ (fun q => c5 ((nI_eq (by omega) (by omega)).mp q)) (no (fun q => c5 (congrArg (fun x : ls_V => x.2.2.2.2) q)))
        · refine iff_ (fun q => c4 ?_) (no (fun q => c4 (congrArg (fun x : ls_V => x.2.2.2.1) q)))
          have q2 := congrArg (· + 1) q
          simp only [Int32.sub_add_cancel] at q2
          exact (nI_eq (by omega) (by omega)).mp q2
      · exact iff_ (fun q => c3 ((nI_eq (by omega) (by omega)).mp q)) (no (fun q => c3 (congrArg (fun x : ls_V => x.2.2.1) q)))
    · exact iff_ (fun q => c2 ((nI_eq (by omega) (by omega)).mp q)) (no (fun q => c2 (congrArg (fun x : ls_V => x.2.1) q)))
  · exact iff_ (fun q => c1 ((nI_eq (by omega) (by omega)).mp q)) (no (fun q => c1 (congrArg (fun x : ls_V => x.1) q)))
end
