section
variable {n : Nat} {σ : ls_S} {B M : mm_M}
theorem ls_an {e k : Nat} (h : k ≤ e) {m : Int32} (hm : nI k + m = 0) : nI e + m = nI (e - k) := by
  have : nI e = nI (e - k) + nI k := by rw [nI_add]; congr 1; omega
  rw [this, Int32.add_assoc, hm, Int32.add_zero]
theorem ls_bs112 (h : ls_M n σ B M) {s e : Nat} (hs : s < 2 ^ 63) (he : e < 2 ^ 31) : ∃ M1, f_X10_byStrengths_112 M (some (n + 31)) (lN s) (nI e) = some M1 ∧ ls_M n (mm_u (mm_u σ 29 0 (ls_kp s 500 4000000)) 30 0 (ls_kp e 1300 3500)) B M1 := by
  obtain ⟨M1, e1, h1⟩ := ls_pI h 29 (ls_kp s 500 4000000) (by decide)
  obtain ⟨M2, e2, h2⟩ := ls_pI h1 30 (ls_kp e 1300 3500) (by decide)
  refine ⟨M2, ?_, h2⟩
  refine bx (ls_kept M (b := 500) (c := 4000000) hs (by omega) (by omega)) (bx (a := M1) (by rw [lN_i]; exact e1) ?_)
  refine bx (a := lN (ls_kp e 1300 3500)) (by rw [nI_l he]; exact ls_kept M1 (b := 1300) (c := 3500) (by omega) (by omega) (by omega)) ?_
  exact bx (a := M2) (by rw [lN_i]; exact e2) rfl
/-- what the strengths' rule makes of a strength and of an ease -/
def ls_bS (a c s e : Nat) : Nat := if a = 0 then s / 5 else if a = 1 then s * (1000 + (1200 - c)) / 1000 else if a = 3 then s * (1000 + (e - 1000) * (1900 - c) / 1000) / 1000 * 1300 / 1000 else s * (1000 + (e - 1000) * (1900 - c) / 1000) / 1000
def ls_bE (a e : Nat) : Nat := if a = 0 then e - 200 else if a = 1 then e - 150 else if a = 3 then e + 150 else e
theorem ls_bs_b {c s e : Nat} (hc : c ≤ 1000) (hs : s ≤ 4000000) (he : 1300 ≤ e ∧ e ≤ 3500) : (e - 1000) * (1900 - c) ≤ 2500 * 1900 ∧ s * (1000 + (e - 1000) * (1900 - c) / 1000) ≤ 4000000 * 5750 ∧ s * (1000 + (1200 - c)) ≤ 4000000 * 2200 := by
  have a1 : (e - 1000) * (1900 - c) ≤ 2500 * 1900 := Nat.mul_le_mul (by omega) (by omega)
  exact ⟨a1, Nat.mul_le_mul hs (by omega), Nat.mul_le_mul hs (by omega)⟩
theorem ls_byStrengths (h : ls_M n σ B M) {a c : Nat} (ha : a ≤ 3) (hc : c ≤ 1000) (hs : σ 29 0 ≤ 4000000) (he : 1300 ≤ σ 30 0 ∧ σ 30 0 ≤ 3500) : ∃ M1, f_X10_byStrengths M (some (n + 31)) (nI a) (nI c) = some M1 ∧ ls_M n (mm_u (mm_u σ 29 0 (ls_kp (ls_bS a c (σ 29 0) (σ 30 0)) 500 4000000)) 30 0 (ls_kp (ls_bE a (σ 30 0)) 1300 3500)) B M1 := by
  obtain ⟨b1, b2, b3⟩ := ls_bs_b hc hs he
  have eS : (ls_en 29 (σ 29 0)).toInt64 = lN (σ 29 0) := nI_l (by omega)
  have eE : (ls_en 30 (σ 30 0)).toInt64 = lN (σ 30 0) := nI_l (by omega)
  have eC : ((1900 : Int32) - nI c).toInt64 = lN (1900 - c) := by rw [show (1900 : Int32) - nI c = nI (1900 - c) from pk_sub (a := 1900) (by omega)]; exact nI_l (by omega)
  have eG : (lN (σ 29 0) * (1000 + ((lN (σ 30 0) - 1000) * lN (1900 - c)) / 1000)) / 1000 = lN (σ 29 0 * (1000 + (σ 30 0 - 1000) * (1900 - c) / 1000) / 1000) := by
    rw [show lN (σ 30 0) - 1000 = lN (σ 30 0 - 1000) from lN_sub (b := 1000) (by omega), lN_mul, show lN ((σ 30 0 - 1000) * (1900 - c)) / 1000 = lN ((σ 30 0 - 1000) * (1900 - c) / 1000) from pk_lDiv (b := 1000) (by omega) (by omega) (by omega)]
    rw [show (1000 : Int64) + lN ((σ 30 0 - 1000) * (1900 - c) / 1000) = lN (1000 + (σ 30 0 - 1000) * (1900 - c) / 1000) from lN_add 1000 _, lN_mul]
    exact pk_lDiv (b := 1000) (by omega) (by omega) (by omega)
  have h3 : a = 0 ∨ a = 1 ∨ a = 2 ∨ a = 3 := by omega
  rcases h3 with rfl | rfl | rfl | rfl
  · obtain ⟨M1, e1, h1⟩ := ls_bs112 h (s := σ 29 0 / 5) (e := σ 30 0 - 200) (by omega) (by omega)
    refine ⟨M1, bx (ls_fI h 29 (by decide)) (bx (ls_fI h 30 (by decide)) (ift (by decide) ?_)), h1⟩
    show f_X10_byStrengths_112 M (some (n + 31)) ((ls_en 29 (σ 29 0)).toInt64 / 5) (nI (σ 30 0) + (-200)) = _
    rw [eS, show lN (σ 29 0) / 5 = lN (σ 29 0 / 5) from pk_lDiv (b := 5) (by omega) (by omega) (by omega), ls_an (k := 200) (by omega) (by decide)]
    exact e1
  · obtain ⟨M1, e1, h1⟩ := ls_bs112 h (s := σ 29 0 * (1000 + (1200 - c)) / 1000) (e := σ 30 0 - 150) (by omega) (by omega)
    refine ⟨M1, bx (ls_fI h 29 (by decide)) (bx (ls_fI h 30 (by decide)) (iff_ (by decide) (ift (by decide) ?_))), h1⟩
    show f_X10_byStrengths_112 M (some (n + 31)) (((ls_en 29 (σ 29 0)).toInt64 * (1000 + ((1200 : Int32) - nI c)).toInt64) / 1000) (nI (σ 30 0) + (-150)) = _
    have e6 : ((1000 : Int32) + (1200 - nI c)).toInt64 = lN (1000 + (1200 - c)) := by
      rw [show (1200 : Int32) - nI c = nI (1200 - c) from pk_sub (a := 1200) (by omega), show (1000 : Int32) + nI (1200 - c) = nI (1000 + (1200 - c)) from nI_add 1000 _]
      exact nI_l (by omega)
    rw [eS, e6, lN_mul, show ∀ q, q < 2 ^ 63 → lN q / 1000 = lN (q / 1000) from fun q hq => pk_lDiv (b := 1000) hq (by omega) (by omega), ls_an (k := 150) (by omega) (by decide)]
    · exact e1
    · omega
  · obtain ⟨M1, e1, h1⟩ := ls_bs112 h (s := σ 29 0 * (1000 + (σ 30 0 - 1000) * (1900 - c) / 1000) / 1000) (e := σ 30 0) (by omega) (by omega)
    refine ⟨M1, bx (ls_fI h 29 (by decide)) (bx (ls_fI h 30 (by decide)) (iff_ (by decide) (iff_ (by decide) (iff_ (by decide) ?_)))), h1⟩
    show f_X10_byStrengths_112 M (some (n + 31)) ((((ls_en 29 (σ 29 0)).toInt64) * (1000 + ((((ls_en 30 (σ 30 0)).toInt64) - 1000) * (((1900 : Int32) - nI c).toInt64)) / 1000)) / 1000) (nI (σ 30 0)) = _
    rw [eS, eE, eC, eG]
    exact e1
  · obtain ⟨M1, e1, h1⟩ := ls_bs112 h (s := σ 29 0 * (1000 + (σ 30 0 - 1000) * (1900 - c) / 1000) / 1000 * 1300 / 1000) (e := σ 30 0 + 150) (by omega) (by omega)
    refine ⟨M1, bx (ls_fI h 29 (by decide)) (bx (ls_fI h 30 (by decide)) (iff_ (by decide) (iff_ (by decide) (ift (by decide) ?_)))), h1⟩
    show f_X10_byStrengths_112 M (some (n + 31)) ((((((ls_en 29 (σ 29 0)).toInt64) * (1000 + ((((ls_en 30 (σ 30 0)).toInt64) - 1000) * (((1900 : Int32) - nI c).toInt64)) / 1000)) / 1000) * 1300) / 1000) (nI (σ 30 0) + nI 150) = _
    rw [eS, eE, eC, eG, nI_add, show ∀ q, lN q * 1300 = lN (q * 1300) from fun q => lN_mul q 1300, show ∀ q, q < 2 ^ 63 → lN q / 1000 = lN (q / 1000) from fun q hq => pk_lDiv (b := 1000) hq (by omega) (by omega)]
    · exact e1
    · omega
theorem ls_ab167 (h : ls_M n σ B M) {a on : Nat} (ha : a ≤ 3) : ∃ M1, f_X10_answerBy_167 M (some (n + 31)) (nI a) (nI on) = some M1 ∧ ls_M n (mm_u (mm_u σ 32 0 (on + 1)) 33 0 (σ 33 0 + if a = 0 then 1 else 0)) B M1 := by
  obtain ⟨M1, e1, h1⟩ := ls_pI h 32 (on + 1) (by decide)
  obtain ⟨M2, e2, h2⟩ := ls_pI h1 33 (σ 33 0 + if a = 0 then 1 else 0) (by decide)
  refine ⟨M2, bx (a := M1) (by rw [← nI_pred on]; exact e1) (bx (ls_fI h1 33 (by decide)) ?_), h2⟩
  by_cases h0 : a = 0
  · subst h0
    exact ift (by decide) (bx (a := M2) (by show mm_pI M1 _ 11 33 (nI (σ 33 0) + nI 1) = _; rw [nI_add]; exact e2) rfl)
  · refine iff_ (show ¬ nI a = nI 0 from fun q => h0 ((nI_eq (by omega) (by omega)).mp q)) (bx (a := M2) ?_ rfl)
    show mm_pI M1 _ 11 33 (nI (σ 33 0) + nI 0) = _
    rw [nI_add]
    rw [if_neg h0] at e2
    exact e2
theorem ls_ab49 (M : mm_M) (r : Option Nat) (v1 v2 v4 : Int32) {a : Nat} (ha : a ≤ 3) (w : Int32) : f_X10_answerBy_12 M r v1 v2 (nI a) v4 w = f_X10_answerBy_49 M r v1 v2 (nI a) v4 w (nI (if a = 0 then 500 else if a = 1 then 1000 else if a = 3 then 6000 else 2500)) := by
  have h3 : a = 0 ∨ a = 1 ∨ a = 2 ∨ a = 3 := by omega
  rcases h3 with rfl | rfl | rfl | rfl
  · exact ift (by decide) rfl
  · exact iff_ (by decide) (ift (by decide) rfl)
  · exact iff_ (by decide) (iff_ (by decide) (iff_ (by decide) rfl))
  · exact iff_ (by decide) (iff_ (by decide) (ift (by decide) rfl))
theorem ls_answerBy {v : ls_V} (h : ls_M n σ B M) (hv : ls_sc σ = v) {r b a on : Nat} (hr : r ≤ 2) (hb : b ≤ 100000) (ha : a ≤ 3) (hk : ls_ok v on) (hon : on ≤ 200000) : ∃ M1 τ, f_X10_answerBy M (some (n + 31)) (nI r) (nI b) (nI a) (nI on) = some M1 ∧ ls_M n τ B M1 ∧ ls_v σ τ ∧ ls_sc τ = ls_aB r b a on v := by
  subst hv
  obtain ⟨k1, k2, k3, k4, k5, k6, k7⟩ := hk
  have k1 : σ 29 0 = 0 ∨ 500 ≤ σ 29 0 := k1
  have k2 : σ 29 0 ≤ 4000000 := k2
  have k3 : 1300 ≤ σ 30 0 := k3
  have k4 : σ 30 0 ≤ 3500 := k4
  have k5 : σ 31 0 ≤ 9 := k5
  have k6 : σ 32 0 ≤ on + 1 := k6
  have k7 : σ 33 0 ≤ 100000 := k7
  have e0 : f_X10_answerBy M (some (n + 31)) (nI r) (nI b) (nI a) (nI on) = f_X10_answerBy_49 M (some (n + 31)) (nI r) (nI b) (nI a) (nI on) (if σ 29 0 = 0 then 1 else 0) (nI (if a = 0 then 500 else if a = 1 then 1000 else if a = 3 then 6000 else 2500)) := by
    refine bx (ls_fI h 29 (by decide)) ?_
    by_cases h0 : σ 29 0 = 0
    · rw [if_pos h0]
      exact ift (show nI (σ 29 0) = 0 by rw [h0]; decide) (ls_ab49 M _ _ _ _ ha 1)
    · rw [if_neg h0]
      exact iff_ (show ¬ nI (σ 29 0) = 0 from nI_ne0 (by omega) (by omega)) (ls_ab49 M _ _ _ _ ha 0)
  rw [e0]
  by_cases hr0 : r = 0
  · subst hr0
    have key : ∀ b1 : Nat, b1 ≤ 9 → ∃ M1, f_X10_answerBy_90 M (some (n + 31)) (nI a) (nI on) (some (n + 31)) (nI b1) = some M1 ∧ ls_M n (mm_u (mm_u (mm_u (mm_u σ 31 0 b1) 29 0 (1000 * 2 ^ b1)) 32 0 (on + 1)) 33 0 (σ 33 0 + if a = 0 then 1 else 0)) B M1 := by
      intro b1 hb1
      obtain ⟨M1, e1, h1⟩ := ls_pI h 31 b1 (by decide)
      obtain ⟨M2, e2, h2⟩ := ls_pI h1 29 (1000 * 2 ^ b1) (by decide)
      obtain ⟨M3, e3, h3⟩ := ls_ab167 h2 (a := a) (on := on) ha
      refine ⟨M3, bx e1 (bx (ls_fI h1 31 (by decide)) (bx (a := M2) ?_ e3)), h3⟩
      have e4 : ∀ b1, b1 ≤ 9 → (1000 : Int32) <<< (nI b1 &&& 31) = nI (1000 * 2 ^ b1) := by
        intro b1 h9
        have : b1 = 0 ∨ b1 = 1 ∨ b1 = 2 ∨ b1 = 3 ∨ b1 = 4 ∨ b1 = 5 ∨ b1 = 6 ∨ b1 = 7 ∨ b1 = 8 ∨ b1 = 9 := by omega
        rcases this with rfl | rfl | rfl | rfl | rfl | rfl | rfl | rfl | rfl | rfl <;> decide
      show mm_pI M1 _ 11 29 ((1000 : Int32) <<< (nI b1 &&& 31)) = _
      rw [e4 b1 hb1]
      exact e2
    have fin : ∀ b1 : Nat, b1 = (if a = 0 then 0 else if 9 < σ 31 0 + a - 1 then 9 else σ 31 0 + a - 1) → ls_sc (mm_u (mm_u (mm_u (mm_u σ 31 0 b1) 29 0 (1000 * 2 ^ b1)) 32 0 (on + 1)) 33 0 (σ 33 0 + if a = 0 then 1 else 0)) = ls_aB 0 b a on (ls_sc σ) := by
      rintro b1 rfl
      unfold ls_aB
      rw [if_pos rfl]
      rfl
    have fv : ∀ b1, ls_v σ (mm_u (mm_u (mm_u (mm_u σ 31 0 b1) 29 0 (1000 * 2 ^ b1)) 32 0 (on + 1)) 33 0 (σ 33 0 + if a = 0 then 1 else 0)) := by
      intro b1
      refine ls_v_u (ls_v_u (ls_v_u (ls_v_u (ls_v_rf σ) ?_) ?_) ?_) ?_ <;> (unfold ls_nx; omega)
    by_cases ha0 : a = 0
    · obtain ⟨M1, e1, h1⟩ := key 0 (by omega)
      refine ⟨M1, _, ift (by decide) (ift (show nI a = nI 0 by rw [ha0]) e1), h1, fv _, fin 0 (by rw [if_pos ha0])⟩
    · have e5 : nI (σ 31 0) + nI a - 1 = nI (σ 31 0 + a - 1) := by rw [nI_add]; exact pk_sub (b := 1) (by omega)
      by_cases h9 : 9 < σ 31 0 + a - 1
      · obtain ⟨M1, e1, h1⟩ := key 9 (by omega)
        refine ⟨M1, _, ift (by decide) (iff_ (show ¬ nI a = nI 0 from fun q => ha0 ((nI_eq (by omega) (by omega)).mp q)) (bx (ls_fI h 31 (by decide)) (iff_ ?_ e1))), h1, fv _, fin 9 (by rw [if_neg ha0, if_pos h9])⟩
        show ¬ nI (σ 31 0) + nI a - 1 ≤ nI 9
        rw [e5]
        exact nI_ge h9 (by omega)
      · obtain ⟨M1, e1, h1⟩ := key (σ 31 0 + a - 1) (by omega)
        refine ⟨M1, _, ift (by decide) (iff_ (show ¬ nI a = nI 0 from fun q => ha0 ((nI_eq (by omega) (by omega)).mp q)) (bx (ls_fI h 31 (by decide)) (ift ?_ (bx (ls_fI h 31 (by decide)) ?_)))), h1, fv _, fin _ (by rw [if_neg ha0, if_neg h9])⟩
        · show nI (σ 31 0) + nI a - 1 ≤ nI 9
          rw [e5]
          exact nI_le (by omega) (by omega)
        · show f_X10_answerBy_90 M (some (n + 31)) (nI a) (nI on) (some (n + 31)) (nI (σ 31 0) + nI a - 1) = _
          rw [e5]
          exact e1
  · refine Exists.imp (fun M1 => Exists.imp (fun τ => And.imp_left (fun q => iff_ (show ¬ nI r = nI 0 from fun q => hr0 ((nI_eq (by omega) (by omega)).mp q)) q))) ?_
    by_cases h0 : σ 29 0 = 0
    · obtain ⟨M1, e1, h1⟩ := ls_pI h 29 (if a = 0 then 500 else if a = 1 then 1000 else if a = 3 then 6000 else 2500) (by decide)
      obtain ⟨M2, e2, h2⟩ := ls_ab167 h1 (a := a) (on := on) ha
      refine ⟨M2, _, iff_ (by rw [if_pos h0]; decide) (bx e1 e2), h2, ?_, ?_⟩
      · refine ls_v_u (ls_v_u (ls_v_u (ls_v_rf σ) ?_) ?_) ?_ <;> (unfold ls_nx; omega)
      · unfold ls_aB
        rw [if_neg hr0, if_pos (show (ls_sc σ).1 = 0 from h0)]
        rfl
    · refine Exists.imp (fun M1 => Exists.imp (fun τ => And.imp_left (fun q => ift (if_neg h0) q))) ?_
      by_cases hr2 : r = 2
      · subst hr2
        have hm : σ 29 0 * b ≤ 4000000 * 100000 := Nat.mul_le_mul k2 hb
        obtain ⟨M1, e1, h1⟩ := ls_pI h 29 (ls_kp (σ 29 0 * b / 1000) 500 4000000) (by decide)
        obtain ⟨M2, e2, h2⟩ := ls_ab167 h1 (a := a) (on := on) ha
        refine ⟨M2, _, ift (by decide) (bx (ls_fI h 29 (by decide)) (bx (a := lN (ls_kp (σ 29 0 * b / 1000) 500 4000000)) ?_ (bx (a := M1) (by rw [lN_i]; exact e1) e2))), h2, ?_, ?_⟩
        · rw [show (ls_en 29 (σ 29 0)).toInt64 = lN (σ 29 0) from nI_l (by omega), nI_l (by omega), lN_mul, show lN (σ 29 0 * b) / 1000 = lN (σ 29 0 * b / 1000) from pk_lDiv (b := 1000) (by omega) (by omega) (by omega)]
          exact ls_kept M (b := 500) (c := 4000000) (by omega) (by omega) (by omega)
        · refine ls_v_u (ls_v_u (ls_v_u (ls_v_rf σ) ?_) ?_) ?_ <;> (unfold ls_nx; omega)
        · unfold ls_aB
          rw [if_neg (show ¬ (2 : Nat) = 0 by decide), if_neg (show ¬ (ls_sc σ).1 = 0 from h0), if_pos rfl]
          rfl
      · have hc : ls_ch (ls_sc σ) on ≤ 1000 := ls_F_le _
        obtain ⟨M1, e1, h1⟩ := ls_byStrengths h (a := a) (c := ls_ch (ls_sc σ) on) ha hc k2 ⟨k3, k4⟩
        obtain ⟨M2, e2, h2⟩ := ls_ab167 h1 (a := a) (on := on) ha
        refine ⟨M2, _, iff_ (show ¬ nI r = nI 2 from fun q => hr2 ((nI_eq (by omega) (by omega)).mp q)) (bx (ls_rc h) (bx (ls_chance h rfl (show 0 < σ 29 0 by omega) k2 k6 hon) (bx (ls_rc h) (bx e1 e2)))), h2, ?_, ?_⟩
        · refine ls_v_u (ls_v_u (ls_v_u (ls_v_u (ls_v_rf σ) ?_) ?_) ?_) ?_ <;> (unfold ls_nx; omega)
        · unfold ls_aB
          rw [if_neg hr0, if_neg (show ¬ (ls_sc σ).1 = 0 from h0), if_neg hr2]
          rfl
end
