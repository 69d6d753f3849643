/-- a memory's cell holds v -/
def lc_at (M : mm_M) (a : Nat) (v : ls_V) : Prop := mm_k M a = some (9, 0) ∧ mm_I M a 0 = nI v.1 ∧ mm_I M a 1 = nI v.2.1 ∧ mm_I M a 2 = nI v.2.2.1 ∧ mm_I M a 3 = nI v.2.2.2.1 - 1 ∧ mm_I M a 4 = nI v.2.2.2.2
/-- the curve's cells -/
def lc_cv (n : Nat) (M : mm_M) : Prop := mm_k M (n + 1) = some (2, 0) ∧ mm_R M (n + 1) 0 = some (n + 2) ∧ mm_k M (n + 2) = some (12, 400) ∧ lc_I3 n M
/-- M1 is M but for the numbers of the memory at a -/
def lc_df (M M1 : mm_M) (a : Nat) : Prop := M1.1 = M.1 ∧ M1.2.2 = M.2.2 ∧ ∀ b k, ¬ (b = a ∧ k < 5) → mm_I M1 b k = mm_I M b k
theorem lc_df_rf (M : mm_M) (a : Nat) : lc_df M M a := ⟨rfl, rfl, fun _ _ _ => rfl⟩
theorem lc_df_tr {M M1 M2 : mm_M} {a : Nat} (h : lc_df M M1 a) (h2 : lc_df M1 M2 a) : lc_df M M2 a := ⟨h2.1.trans h.1, h2.2.1.trans h.2.1, fun b k hk => (h2.2.2 b k hk).trans (h.2.2 b k hk)⟩
theorem lc_df_I {M M1 : mm_M} {a : Nat} (h : lc_df M M1 a) {k : Nat} (hk : k < 5) (v : Int32) : lc_df M (mm_sI M1 a k v) a := by
  refine ⟨h.1, h.2.1, fun b j hj => ?_⟩
  rw [mm_II, if_neg (fun e => hj ⟨e.1, by omega⟩)]
  exact h.2.2 b j hj
theorem lc_df_k {M M1 : mm_M} {a : Nat} (h : lc_df M M1 a) (b : Nat) : mm_k M1 b = mm_k M b := congrFun h.1 b
theorem lc_df_R {M M1 : mm_M} {a : Nat} (h : lc_df M M1 a) (b k : Nat) : mm_R M1 b k = mm_R M b k := congrFun (congrFun (congrArg (fun x => x.1) h.2.1) b) k
theorem lc_df_cv {n : Nat} {M M1 : mm_M} {a : Nat} (h : lc_df M M1 a) (hc : lc_cv n M) (ha : a ≠ n + 1 ∧ a ≠ n + 2) : lc_cv n M1 := by
  refine ⟨(lc_df_k h _).trans hc.1, (lc_df_R h _ _).trans hc.2.1, (lc_df_k h _).trans hc.2.2.1, (h.2.2 _ _ (fun e => ha.1 e.1.symm)).trans hc.2.2.2.1, fun i hi => (h.2.2 _ _ (fun e => ha.2 e.1.symm)).trans (hc.2.2.2.2 i hi)⟩
theorem lc_F0 {q : Nat} (h : 400 ≤ q) : ls_F q = 0 := by
  have h1 : ls_F 400 = 0 := by decide +kernel
  have := ls_F_an h
  omega
section
variable {n : Nat} {M : mm_M} {a : Nat} {v : ls_V}
theorem lc_chanceAt (h : lc_cv n M) {q : Nat} (hq : q < 2 ^ 31) : f_X1_chanceAt M (some (n + 1)) (nI q) = some (nI (ls_F q)) := by
  refine ift (nI_pos' hq) (bx (pe_fR 0 h.1) ?_)
  rw [h.2.1]
  refine bx (pe_ln h.2.2.1 (by omega)) ?_
  by_cases hl : 400 ≤ q
  · rw [lc_F0 hl]
    exact ift (show nI 400 ≤ nI q from nI_le hl hq) rfl
  · refine iff_ (show ¬ nI 400 ≤ nI q from nI_ge (by omega) (by omega)) (bx (pe_fR 0 h.1) ?_)
    rw [h.2.1]
    exact bx (pe_aI h.2.2.1 (by omega) (by omega)) (congrArg some (h.2.2.2.2 q (by omega)))
theorem lc_isFresh (h : lc_at M a v) (h2 : v.1 < 2 ^ 31) : f_X8_isFresh M (some a) = some (if v.1 = 0 then 1 else 0) := by
  refine bx (pe_fI 0 h.1) ?_
  rw [h.2.1]
  by_cases h0 : v.1 = 0
  · rw [if_pos h0, h0]
    exact ift (by decide) (gz (s := 1) (Or.inr rfl) rfl)
  · rw [if_neg h0]
    exact iff_ (nI_ne0 (by omega) h2) (gz (s := 0) (Or.inl rfl) rfl)
theorem lc_isLeech (h : lc_at M a v) (h2 : v.2.2.2.2 < 2 ^ 31) : f_X8_isLeech M (some a) = some (if v.2.2.2.2 < 8 then 0 else 1) := by
  refine bx (pe_fI 4 h.1) ?_
  rw [h.2.2.2.2.2]
  by_cases h0 : v.2.2.2.2 < 8
  · have e : (if v.2.2.2.2 < 8 then (0 : Int32) else 1) = 0 := if_pos h0
    rw [e]
    exact ift (show nI v.2.2.2.2 < nI 8 from nI_lt h0 (by omega)) (gz (s := 0) (Or.inl rfl) rfl)
  · have e : (if v.2.2.2.2 < 8 then (0 : Int32) else 1) = 1 := if_neg h0
    rw [e]
    exact iff_ (show ¬ nI v.2.2.2.2 < nI 8 from nI_nlt (by omega) h2) (gz (s := 1) (Or.inr rfl) rfl)
theorem lc_isToCome (h : lc_at M a v) (h1 : v.1 < 2 ^ 31) (h2 : v.2.2.2.2 < 2 ^ 31) : f_X8_isToCome M (some a) = some (if 0 < v.1 ∧ v.2.2.2.2 < 8 then 1 else 0) := by
  refine bx (pe_fI 0 h.1) ?_
  by_cases h0 : v.1 = 0
  · have e : (if 0 < v.1 ∧ v.2.2.2.2 < 8 then (1 : Int32) else 0) = 0 := if_neg (by omega)
    rw [e]
    exact ift (show mm_I M a 0 ≤ 0 by rw [h.2.1, h0]; decide) (gz (s := 0) (Or.inl rfl) rfl)
  · refine iff_ (show ¬ mm_I M a 0 ≤ 0 by rw [h.2.1]; exact nI_nle (by omega) h1) (bx (pe_fI 4 h.1) ?_)
    by_cases h3 : v.2.2.2.2 < 8
    · have e : (if 0 < v.1 ∧ v.2.2.2.2 < 8 then (1 : Int32) else 0) = 1 := if_pos (by omega)
      rw [e]
      exact iff_ (show ¬ nI 8 ≤ mm_I M a 4 by rw [h.2.2.2.2.2]; exact nI_ge h3 (by omega)) (gz (s := 1) (Or.inr rfl) rfl)
    · have e : (if 0 < v.1 ∧ v.2.2.2.2 < 8 then (1 : Int32) else 0) = 0 := if_neg (by omega)
      rw [e]
      exact ift (show nI 8 ≤ mm_I M a 4 by rw [h.2.2.2.2.2]; exact nI_le (by omega) h2) (gz (s := 0) (Or.inl rfl) rfl)
theorem lc_chanceOn (h : lc_at M a v) (hc : lc_cv n M) {on : Nat} (hk : ls_ok v on) (hon : on ≤ 110000) : f_X8_chanceOn M (some a) (nI on) (some (n + 1)) = some (nI (if v.1 = 0 then 0 else ls_ch v on)) := by
  obtain ⟨k1, k2, k3, k4, k5, k6, k7⟩ := hk
  refine bx (pe_fI 0 h.1) ?_
  by_cases h0 : v.1 = 0
  · rw [if_pos h0]
    exact ift (show mm_I M a 0 ≤ 0 by rw [h.2.1, h0]; decide) rfl
  · rw [if_neg h0]
    have hb : 16000 * (on + 1 - v.2.2.2.1) / v.1 ≤ 16000 * (on + 1 - v.2.2.2.1) := Nat.div_le_self _ _
    refine iff_ (show ¬ mm_I M a 0 ≤ 0 by rw [h.2.1]; exact nI_nle (by omega) (by omega)) (bx (pe_fI 3 h.1) (bx (pe_fI 0 h.1) (bx (a := nI (16000 * (on + 1 - v.2.2.2.1) / v.1)) ?_ (bx (pe_rc hc.1) (bx (lc_chanceAt hc (by omega)) rfl)))))
    rw [h.2.2.2.2.1, h.2.1, ls_sbd k6, show (16000 : Int32) * nI (on + 1 - v.2.2.2.1) = nI (16000 * (on + 1 - v.2.2.2.1)) from pk_mul 16000 _]
    refine (if_neg (nI_ne0 (by omega) (by omega))).trans ?_
    rw [pk_div (by omega) (by omega) (by omega)]
theorem lc_isDue (h : lc_at M a v) (hc : lc_cv n M) {on : Nat} (hk : ls_ok v on) (hon : on ≤ 110000) : f_X8_isDue M (some a) (nI on) (some (n + 1)) = some (if ls_due v on then 1 else 0) := by
  obtain ⟨k1, k2, k3, k4, k5, k6, k7⟩ := id hk
  have hF : ls_ch v on ≤ 1000 := ls_F_le _
  refine bx (pe_rc h.1) (bx (lc_isToCome h (by omega) (by omega)) ?_)
  by_cases h0 : 0 < v.1 ∧ v.2.2.2.2 < 8
  · refine iff_ (by rw [if_pos h0]; decide) (bx (pe_rc h.1) (bx (lc_chanceOn h hc hk hon) ?_))
    rw [if_neg (show ¬ v.1 = 0 by omega)]
    by_cases hd : ls_ch v on < 900
    · have e : (if ls_due v on then (1 : Int32) else 0) = 1 := if_pos ⟨h0.1, h0.2, hd⟩
      rw [e]
      exact iff_ (show ¬ nI 900 ≤ nI (ls_ch v on) from nI_ge hd (by omega)) (gz (s := 1) (Or.inr rfl) rfl)
    · have e : (if ls_due v on then (1 : Int32) else 0) = 0 := if_neg (fun q => hd q.2.2)
      rw [e]
      exact ift (show nI 900 ≤ nI (ls_ch v on) from nI_le (by omega) (by omega)) (gz (s := 0) (Or.inl rfl) rfl)
  · have e : (if ls_due v on then (1 : Int32) else 0) = 0 := if_neg (fun q => h0 ⟨q.1, q.2.1⟩)
    rw [e]
    exact ift (if_neg h0) (gz (s := 0) (Or.inl rfl) rfl)
theorem lc_isKnown (h : lc_at M a v) (hc : lc_cv n M) {on : Nat} (hk : ls_ok v on) (hon : on ≤ 110000) : f_X8_isKnown M (some a) (nI on) (some (n + 1)) = some (if ls_kn v on then 1 else 0) := by
  obtain ⟨k1, k2, k3, k4, k5, k6, k7⟩ := id hk
  have hF : ls_ch v on ≤ 1000 := ls_F_le _
  refine bx (pe_rc h.1) (bx (lc_isToCome h (by omega) (by omega)) ?_)
  by_cases h0 : 0 < v.1 ∧ v.2.2.2.2 < 8
  · refine iff_ (by rw [if_pos h0]; decide) (bx (pe_rc h.1) (bx (lc_chanceOn h hc hk hon) ?_))
    rw [if_neg (show ¬ v.1 = 0 by omega)]
    by_cases hd : ls_ch v on < 900
    · have e : (if ls_kn v on then (1 : Int32) else 0) = 0 := if_neg (fun q => by have := q.2.2; omega)
      rw [e]
      exact ift (show nI (ls_ch v on) < nI 900 from nI_lt hd (by omega)) (gz (s := 0) (Or.inl rfl) rfl)
    · have e : (if ls_kn v on then (1 : Int32) else 0) = 1 := if_pos ⟨h0.1, h0.2, by omega⟩
      rw [e]
      exact iff_ (show ¬ nI (ls_ch v on) < nI 900 from nI_nlt (by omega) (by omega)) (gz (s := 1) (Or.inr rfl) rfl)
  · have e : (if ls_kn v on then (1 : Int32) else 0) = 0 := if_neg (fun q => h0 ⟨q.1, q.2.1⟩)
    rw [e]
    exact ift (if_neg h0) (gz (s := 0) (Or.inl rfl) rfl)
/-- the first day on which the step of the curve is that of DUE sides -/
def ls_fd (v : ls_V) (t : Nat) : Nat := if t + 1 < v.2.2.2.1 + (15 * v.1 + 15999) / 16000 then v.2.2.2.1 + (15 * v.1 + 15999) / 16000 - 1 else t
theorem lc_firstDue (h : lc_at M a v) (hc : lc_cv n M) {t : Nat} (hk : ls_ok v t) (ht : t ≤ 110000) : f_X8_firstDue M (some a) (nI t) (some (n + 1)) = some (nI (ls_fd v t)) := by
  obtain ⟨k1, k2, k3, k4, k5, k6, k7⟩ := id hk
  refine bx (pe_fI 1 hc.1) (bx (pe_fI 0 h.1) (bx (pe_fI 3 h.1) ?_))
  rw [hc.2.2.2.1, h.2.1, h.2.2.2.2.1]
  have e1 : (nI 15 * nI v.1 + 15999) / 16000 = nI ((15 * v.1 + 15999) / 16000) := by
    rw [pk_mul, show nI (15 * v.1) + 15999 = nI (15 * v.1 + 15999) from nI_add _ 15999]
    exact pk_div (d := 16000) (by omega) (by omega) (by omega)
  rw [e1]
  unfold ls_fd
  by_cases hz : v.2.2.2.1 + (15 * v.1 + 15999) / 16000 = 0
  · have e2 : v.2.2.2.1 = 0 := by omega
    have e3 : (15 * v.1 + 15999) / 16000 = 0 := by omega
    rw [e2, e3, if_neg (show ¬ nI t < nI 0 - 1 + nI 0 by rw [show nI 0 - 1 + nI 0 = (-1 : Int32) by decide]; exact fun q => nI_pos (n := t) (by omega) (Int32.lt_trans q (by decide))), if_neg (by omega)]
  · have e2 : nI v.2.2.2.1 - 1 + nI ((15 * v.1 + 15999) / 16000) = nI (v.2.2.2.1 + (15 * v.1 + 15999) / 16000 - 1) := by
      rw [show nI (v.2.2.2.1 + (15 * v.1 + 15999) / 16000 - 1) = nI (v.2.2.2.1 + (15 * v.1 + 15999) / 16000) - 1 from (pk_sub (b := 1) (by omega)).symm, ← nI_add, Int32.sub_eq_add_neg, Int32.sub_eq_add_neg, Int32.add_assoc, Int32.add_assoc, Int32.add_comm (-1)]
    rw [e2]
    by_cases hl : t + 1 < v.2.2.2.1 + (15 * v.1 + 15999) / 16000
    · rw [if_pos (nI_lt (by omega) (by omega)), if_pos hl]
    · rw [if_neg (nI_nlt (by omega) (by omega)), if_neg hl]
end
