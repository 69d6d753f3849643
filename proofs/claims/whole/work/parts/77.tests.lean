section
variable {n k : Nat} {σ τ : ls_S} {B M M1 : mm_M}
theorem lc_Tb_of (h : lc n σ B M) (h6 : ls_O6 σ) : lc_Tb n M (σ 39 0) (σ 40 0) (σ 41 0) (σ 42 0) (σ 43 0) (σ 38) := by
  obtain ⟨b1, b2, b3, b4, b5⟩ := h.2.1.2.2.2.2.2.2.2.2.2.2.1
  exact ⟨lc_kt8 h, lc_r h (16, 0, 17) (by decide), lc_kw8 h, b1, b2, b3, b4, b5, h6.1, h.2.1.2.2.2.2.2.2.2.2.2.2.2⟩
theorem lc_tc2_mf (hd : lc_di (lc_tc2 n) M M1) : lc_mf n M M1 := fun a h1 h2 => by
  have hn : ¬ lc_tc2 n a := by unfold lc_tc2; omega
  exact ⟨lc_di_k hd a, (hd.2.2.2 a hn).1, lc_di_R hd a, (hd.2.2.2 a hn).2⟩
theorem ca_told (hM : ls_M n σ M M) (hc : lc n σ M M) (hG : ls_G k σ) (x y : Int32) : ls_cc n k M (fun M => f_X9_told M (some n) x y) (fun M => f_X10_told M (some (n + 31)) x y) := by
  have h6 := hG.2.2.2.2.2.1
  have T := lc_Tb_of hc h6
  obtain ⟨k1, r1, k2, e1, e2, e3, e4, e5, h8, hwl⟩ := id T
  obtain ⟨o1, o2, o3, o4, o5, o6⟩ := id h6
  have r0 := lc_r0 hc 6 16 (by decide)
  by_cases ho : σ 43 0 = 0
  · obtain ⟨l2, a5⟩ := o3 ho
    have hs := o5 (by omega)
    have hs' : 1 ≤ σ 40 0 ∧ σ 40 0 ≤ 499 ∧ 1 ≤ σ 41 0 ∧ σ 41 0 ≤ 499 := hs
    have X : ∀ {z}, f_X9_told_13 M (some n) x y = z → f_X9_told M (some n) x y = z := fun q => bx r0 (bx (pfI k1 e5) (ift (by rw [ho]; decide) q))
    have Y : ∀ {M : mm_M}, ls_M n σ M M → ∀ {z}, f_X10_told_10 M (some (n + 31)) x y = z → f_X10_told M (some (n + 31)) x y = z := fun hM _ q => bx (ls_fI hM 43 (by decide)) (ift (show nI (σ 43 0) = 0 by rw [ho]; decide) q)
    have el : nI (σ 39 0) - 1 = nI (σ 39 0 - 1) := pk_sub (b := 1) (by omega)
    by_cases hx : 1 ≤ x ∧ x ≤ nI (σ 39 0 - 1)
    · obtain ⟨q, hq1, hq2, rfl⟩ := pe_arg1 (by omega) hx.1 hx.2
      have Y2 : ∀ {M : mm_M}, ls_M n σ M M → ∀ {z}, f_X10_told_24 M (some (n + 31)) (nI q) y = z → f_X10_told M (some (n + 31)) (nI q) y = z := fun hM _ q => Y hM (bx (ls_fI hM 39 (by decide)) (bx (a := 1) (by show f_X10_within _ _ _ (nI (σ 39 0) - 1) = _; rw [el]; exact ls_within_in _ hx) (iff_ ne10 q)))
      have X2 : ∀ {z}, f_X9_told_29 M (some n) (nI q) y = z → f_X9_told M (some n) (nI q) y = z := fun q => X (iff_ (Int32.not_lt.mpr hx.1) (bx r0 (bx (pfI k1 e1) (iff_ (nI_ge (by omega) (by omega)) q))))
      by_cases hy : 0 ≤ y ∧ y ≤ 1
      · obtain ⟨r, hr, rfl⟩ := pe_argle (n := 1) (by omega) hy.1 hy.2
        have hz1 : nI r = nI r := rfl
        obtain ⟨MA, eA, dA, TA⟩ := cl_hear T hs' o6 a5 l2 (q := q) (r := r) (by omega) (z := nI r) rfl hr
        have hMA := ls_M_mv hM (lc_tc2_mf dA)
        obtain ⟨MB, τ, eB, hB, f1, f42, f43, f38⟩ := ls_toldM hMA hs' o1 l2 a5 o6 (q := q) (r := r) (by omega) (z := nI r) rfl hr
        have b2 := ls_w2_b (n := σ 39 0) hs' o6 q r
        have t39 : τ 39 0 = σ 39 0 := by rw [f1 39 (by omega) (by omega) (by omega)]
        have t40 : τ 40 0 = σ 40 0 := by rw [f1 40 (by omega) (by omega) (by omega)]
        have t41 : τ 41 0 = σ 41 0 := by rw [f1 41 (by omega) (by omega) (by omega)]
        obtain ⟨A1, A2, A3, A4, A5, A6, A7, A8, A9, A10⟩ := id TA
        have hov : ls_ov (σ 42 0 + 1) (σ 39 0) (ls_w2 (σ 38) (σ 40 0) (σ 41 0) (σ 39 0) q r) ≤ 1 := by
          unfold ls_ov
          split
          · omega
          · split <;> omega
        have hov0 : ls_ov (σ 42 0 + 1) (σ 39 0) (ls_w2 (σ 38) (σ 40 0) (σ 41 0) (σ 39 0) q r) = 0 → σ 42 0 + 1 ≤ 5 := fun h => by
          unfold ls_ov at h
          by_cases h5 : σ 42 0 + 1 = 6
          · rw [if_pos h5] at h; omega
          · omega
        have hcl : lc n τ M MA := lc_tst hc dA (fun f hf => f1 f (by omega) (by omega) (by omega)) ⟨by rw [A4, t39], by rw [A5, t40], by rw [A6, t41], by rw [A7, f42], by rw [A8, f43]⟩ (fun l hl => by rw [t39] at hl; rw [A10 l hl, f38 l hl])
        have hGt : ls_G k τ := ls_G_6 hG (fun f hf => f1 f (by omega) (by omega) (by omega)) (by
          unfold ls_O6
          rw [t39, t40, t41, f42, f43]
          refine ⟨o1, hov, fun h => ⟨l2, hov0 h⟩, by omega, fun _ => hs', fun l hl => ?_⟩
          rw [f38 l hl]
          exact b2 l hl)
        have rA := lc_r0 hcl 6 16 (by decide)
        have kMA : mm_rc MA (some (n + 16)) 8 = some () := pe_rc A1
        refine ⟨_, MA, MB, X2 (iff_ (Int32.not_lt.mpr hy.1) (ift hy.2 (bx r0 ?_))), Y2 hMA (bx (ls_within_in _ hy) (iff_ ne10 eB)), ls_fin hB hcl hGt⟩
        have C : ∀ {s : Int32}, s = nI r → f_X9_told_55 M (some n) (some (n + 16)) (nI q) s = some (if ls_ov (σ 42 0 + 1) (σ 39 0) (ls_w2 (σ 38) (σ 40 0) (σ 41 0) (σ 39 0) q r) = 0 then nI (ls_bq (ls_w2 (σ 38) (σ 40 0) (σ 41 0) (σ 39 0) q r) (σ 40 0) (σ 41 0) (σ 39 0) (σ 39 0)) else 0, MA) := fun hs2 => by
          subst hs2
          refine bx (pe_rc k1) (bx eA (bx rA (bx (pfI A1 A8) ?_)))
          by_cases h0 : ls_ov (σ 42 0 + 1) (σ 39 0) (ls_w2 (σ 38) (σ 40 0) (σ 41 0) (σ 39 0) q r) = 0
          · have hp5 : (999 : Nat) ^ (σ 42 0 + 1) ≤ 999 ^ 5 := Nat.pow_le_pow_right (by omega) (hov0 h0)
            rw [if_pos h0]
            exact ift (by rw [h0]; rfl) (bx rA (bx kMA (bx (cl_bestQ TA hs' (fun l hl => ⟨(b2 l hl).1, Nat.le_trans (b2 l hl).2 hp5⟩) l2) rfl)))
          · rw [if_neg h0]
            exact iff_ (nI_ne0 (by omega) (by omega)) rfl
        by_cases h0 : r = 0
        · exact iff_ (by rw [h0]; decide) (C (by rw [h0]; rfl))
        · exact ift (show nI r = 1 by rw [show r = 1 by omega]; rfl) (C (by rw [show r = 1 by omega]; rfl))
      · refine ⟨-1, M, M, X2 ?_, Y2 hM (bx (ls_within_out _ hy) (ift rfl rfl)), ls_no hM hc hG⟩
        by_cases h1 : y < 0
        · exact ift h1 rfl
        · exact iff_ h1 (iff_ (fun q => hy ⟨Int32.not_lt.mp h1, q⟩) rfl)
    · refine ⟨-1, M, M, X ?_, Y hM (bx (ls_fI hM 39 (by decide)) (bx (a := 0) (by show f_X10_within _ _ _ (nI (σ 39 0) - 1) = _; rw [el]; exact ls_within_out _ hx) (ift rfl rfl))), ls_no hM hc hG⟩
      by_cases h1 : x < 1
      · exact ift h1 rfl
      · refine iff_ h1 (bx r0 (bx (pfI k1 e1) (ift ?_ rfl)))
        refine Int32.not_lt.mp (fun q => hx ⟨Int32.not_lt.mp h1, ?_⟩)
        obtain ⟨j, hj, rfl⟩ := pe_arg (by omega) (Int32.le_trans (show (0 : Int32) ≤ 1 by decide) (Int32.not_lt.mp h1)) q
        exact nI_le (by omega) (by omega)
  · exact ⟨-4, M, M, bx r0 (bx (pfI k1 e5) (iff_ (nI_ne0 (by omega) (by omega)) rfl)), bx (ls_fI hM 43 (by decide)) (iff_ (show ¬ nI (σ 43 0) = 0 from nI_ne0 (by omega) (by omega)) rfl), ls_no hM hc hG⟩
theorem cl_begin (hk : mm_k M (n + 16) = some (8, 0)) (hr : mm_R M (n + 16) 0 = some (n + 17)) (hk2 : mm_k M (n + 17) = some (13, 8)) {a s g : Nat} (ha : a ≤ 8) : ∃ M1, f_X7_begin M (some (n + 16)) (nI a) (nI s) (nI g) = some M1 ∧ lc_di (lc_tc2 n) M M1 ∧ lc_Tb n M1 a s g 0 0 (fun _ => 1) := by
  have em : (if nI 8 < nI a then nI 8 else nI a) = nI a := if_neg (nI_nlt ha (by omega))
  have d0 : lc_di (lc_tc2 n) M (mm_sI (mm_sI (mm_sI (mm_sI (mm_sI M (n + 16) 1 (nI a)) (n + 16) 2 (nI s)) (n + 16) 3 (nI g)) (n + 16) 4 0) (n + 16) 5 0) := lc_di_I (lc_di_I (lc_di_I (lc_di_I (lc_di_I (lc_di_rf _ M) (Or.inl rfl) _ _) (Or.inl rfl) _ _) (Or.inl rfl) _ _) (Or.inl rfl) _ _) (Or.inl rfl) _ _
  have E : f_X7_begin M (some (n + 16)) (nI a) (nI s) (nI g) = f_X7_begin_36w (mm_sI (mm_sI (mm_sI (mm_sI (mm_sI M (n + 16) 1 (nI a)) (n + 16) 2 (nI s)) (n + 16) 3 (nI g)) (n + 16) 4 0) (n + 16) 5 0) (some (n + 16)) 0 := bx (pfR hk hr) (bx (pe_ln hk2 (by omega)) (bx (a := mm_sI M (n + 16) 1 (nI a)) (by rw [em]; exact pe_pI 1 _ hk) (bx (pe_pI (M := mm_sI M (n + 16) 1 (nI a)) 2 _ hk) (bx (pe_pI (M := mm_sI (mm_sI M (n + 16) 1 (nI a)) (n + 16) 2 (nI s)) 3 _ hk) (bx (pe_pI (M := mm_sI (mm_sI (mm_sI M (n + 16) 1 (nI a)) (n + 16) 2 (nI s)) (n + 16) 3 (nI g)) 4 _ hk) (bx (pe_pZ (M := mm_sI (mm_sI (mm_sI (mm_sI M (n + 16) 1 (nI a)) (n + 16) 2 (nI s)) (n + 16) 3 (nI g)) (n + 16) 4 0) 5 hk (Or.inl rfl)) rfl))))))
  have i1 : mm_I (mm_sI (mm_sI (mm_sI (mm_sI (mm_sI M (n + 16) 1 (nI a)) (n + 16) 2 (nI s)) (n + 16) 3 (nI g)) (n + 16) 4 0) (n + 16) 5 0) (n + 16) 1 = nI a := by simp [mm_II]
  have i2 : mm_I (mm_sI (mm_sI (mm_sI (mm_sI (mm_sI M (n + 16) 1 (nI a)) (n + 16) 2 (nI s)) (n + 16) 3 (nI g)) (n + 16) 4 0) (n + 16) 5 0) (n + 16) 2 = nI s := by simp [mm_II]
  have i3 : mm_I (mm_sI (mm_sI (mm_sI (mm_sI (mm_sI M (n + 16) 1 (nI a)) (n + 16) 2 (nI s)) (n + 16) 3 (nI g)) (n + 16) 4 0) (n + 16) 5 0) (n + 16) 3 = nI g := by simp [mm_II]
  have i4 : mm_I (mm_sI (mm_sI (mm_sI (mm_sI (mm_sI M (n + 16) 1 (nI a)) (n + 16) 2 (nI s)) (n + 16) 3 (nI g)) (n + 16) 4 0) (n + 16) 5 0) (n + 16) 4 = nI 0 := by simp [mm_II]; rfl
  have i5 : mm_I (mm_sI (mm_sI (mm_sI (mm_sI (mm_sI M (n + 16) 1 (nI a)) (n + 16) 2 (nI s)) (n + 16) 3 (nI g)) (n + 16) 4 0) (n + 16) 5 0) (n + 16) 5 = nI 0 := by simp [mm_II]; rfl
  have K := (lc_di_k d0 (n + 16)).trans hk
  have R := (lc_di_R d0 (n + 16) 0).trans hr
  have K2 := (lc_di_k d0 (n + 17)).trans hk2
  rw [E]
  generalize mm_sI (mm_sI (mm_sI (mm_sI (mm_sI M (n + 16) 1 (nI a)) (n + 16) 2 (nI s)) (n + 16) 3 (nI g)) (n + 16) 4 0) (n + 16) 5 0 = M0 at *
  refine pe_cnt (body := fun x : mm_M × Int32 => f_X7_begin_36 x.1 (some (n + 16)) x.2) (x := (M0, 0)) (fun i x => ∃ M1, x = (M1, nI i) ∧ lc_di (lc_tc2 n) M M1 ∧ mm_k M1 (n + 16) = some (8, 0) ∧ mm_R M1 (n + 16) 0 = some (n + 17) ∧ mm_k M1 (n + 17) = some (13, 8) ∧ mm_I M1 (n + 16) 1 = nI a ∧ mm_I M1 (n + 16) 2 = nI s ∧ mm_I M1 (n + 16) 3 = nI g ∧ mm_I M1 (n + 16) 4 = nI 0 ∧ mm_I M1 (n + 16) 5 = nI 0 ∧ ∀ l, l < i → mm_L M1 (n + 17) l = lN 1) (fun M1 => lc_di (lc_tc2 n) M M1 ∧ lc_Tb n M1 a s g 0 0 (fun _ => 1)) 8 ⟨M0, rfl, d0, K, R, K2, i1, i2, i3, i4, i5, fun l hl => absurd hl (Nat.not_lt_zero l)⟩ ?_ ?_
  · rintro i x hi ⟨M1, rfl, d, q1, q2, q3, q4, q5, q6, q7, q8, q9⟩
    refine ⟨(mm_sL M1 (n + 17) i 1, nI (i + 1)), bx (pfR q1 q2) (bx (pe_ln q3 (by omega)) (iff_ (nI_ge (b := 8) hi (by omega)) (bx (pfR q1 q2) (bx (pe_tL _ q3 hi (by omega)) ?_)))), _, rfl, lc_di_L d (Or.inr rfl) _ _, q1, q2, q3, q4, q5, q6, q7, q8, fun l hl => ?_⟩
    · show some (Sum.inl (_, nI i + 1)) = _
      rw [nI_1]
    · rw [mm_LL]
      by_cases e : l = i
      · rw [if_pos ⟨rfl, e⟩]; rfl
      · rw [if_neg (fun z => e z.2)]
        exact q9 l (by omega)
  · rintro x ⟨M1, rfl, d, q1, q2, q3, q4, q5, q6, q7, q8, q9⟩
    exact ⟨M1, bx (pfR q1 q2) (bx (pe_ln q3 (by omega)) (ift (nI_le (a := 8) (b := 8) (Nat.le_refl _) (by omega)) (mpx rfl))), d, q1, q2, q3, q4, q5, q6, q7, q8, ha, fun l hl => q9 l (by omega)⟩
theorem ca_test (hM : ls_M n σ M M) (hc : lc n σ M M) (hG : ls_G k σ) (x y z : Int32) : ls_cc n k M (fun M => f_X9_test M (some n) x y z) (fun M => f_X10_test M (some (n + 31)) x y z) := by
  have r0 := lc_r0 hc 6 16 (by decide)
  by_cases hx : 2 ≤ x ∧ x ≤ 8
  · have X : ∀ {w}, f_X9_test_13 M (some n) x y z = w → f_X9_test M (some n) x y z = w := fun q => iff_ (Int32.not_lt.mpr hx.1) (ift hx.2 q)
    have Y : ∀ {M : mm_M} {w}, f_X10_test_10 M (some (n + 31)) x y z = w → f_X10_test M (some (n + 31)) x y z = w := fun q => bx (ls_within_in _ hx) (iff_ ne10 q)
    by_cases hy : 1 ≤ y ∧ y ≤ 499
    · have X2 : ∀ {w}, f_X9_test_25 M (some n) x y z = w → f_X9_test M (some n) x y z = w := fun q => X (iff_ (Int32.not_lt.mpr hy.1) (iff_ (Int32.not_lt.mpr hy.2) q))
      have Y2 : ∀ {M : mm_M} {w}, f_X10_test_21 M (some (n + 31)) x y z = w → f_X10_test M (some (n + 31)) x y z = w := fun q => Y (bx (ls_within_in _ hy) (iff_ ne10 q))
      by_cases hz : 1 ≤ z ∧ z ≤ 499
      · obtain ⟨a, ha, rfl⟩ := pe_argle (n := 8) (by omega) (Int32.le_trans (by decide) hx.1) hx.2
        have ha2 : 2 ≤ a := (nI_leI (a := 2) (by omega) (by omega)).mp hx.1
        obtain ⟨s, hs1, hs2, rfl⟩ := pe_arg1 (n := 499) (by omega) hy.1 hy.2
        obtain ⟨g, hg1, hg2, rfl⟩ := pe_arg1 (n := 499) (by omega) hz.1 hz.2
        obtain ⟨MA, eA, dA, TA⟩ := cl_begin (lc_kt8 hc) (lc_r hc (16, 0, 17) (by decide)) (lc_kw8 hc) (a := a) (s := s) (g := g) ha
        have hMA := ls_M_mv hM (lc_tc2_mf dA)
        obtain ⟨M1, e1, h1⟩ := ls_pI hMA 39 a (by decide)
        obtain ⟨M2, e2, h2⟩ := ls_pI h1 40 s (by decide)
        obtain ⟨M3, e3, h3⟩ := ls_pI h2 41 g (by decide)
        obtain ⟨M4, e4, h4⟩ := ls_pI h3 42 0 (by decide)
        obtain ⟨M5, e5, h5⟩ := ls_pZ h4 43 0 (by decide) (Or.inl rfl)
        have hp : (1 : Nat) ≤ 999 ^ 5 := by decide
        obtain ⟨w, hw, M6, τ, rfl, h6, f1, f39, f40, f41, f42, f43, f38⟩ := pe_cnt (body := fun x : mm_M × Int32 => f_X10_test_62 x.1 (some (n + 31)) (nI a) x.2) (x := (M5, 0)) (fun i x => ∃ M6 τ, x = (M6, nI i) ∧ ls_M n τ MA M6 ∧ (∀ f, f < 38 ∨ 43 < f → τ f = σ f) ∧ τ 39 0 = a ∧ τ 40 0 = s ∧ τ 41 0 = g ∧ τ 42 0 = 0 ∧ τ 43 0 = 0 ∧ ∀ l, l < i → τ 38 l = if l < a then 1 else 0) (fun w => ∃ M6 τ, w = (nI (ls_bq (fun _ => 1) s g a a), M6) ∧ ls_M n τ MA M6 ∧ (∀ f, f < 38 ∨ 43 < f → τ f = σ f) ∧ τ 39 0 = a ∧ τ 40 0 = s ∧ τ 41 0 = g ∧ τ 42 0 = 0 ∧ τ 43 0 = 0 ∧ ∀ l, l < a → τ 38 l = 1) 8 ⟨M5, _, rfl, h5, fun f hf => by
            funext j
            rw [mm_u, if_neg (by omega), mm_u, if_neg (by omega), mm_u, if_neg (by omega), mm_u, if_neg (by omega), mm_u, if_neg (by omega)], rfl, rfl, rfl, rfl, rfl, fun l hl => absurd hl (Nat.not_lt_zero l)⟩ (by
            rintro i x hi ⟨M6, τ, rfl, h6, f1, f39, f40, f41, f42, f43, f38⟩
            obtain ⟨M7, e7, h7⟩ := ls_tL h6 (j := i) (if i < a then 1 else 0) hi
            refine ⟨(M7, nI (i + 1)), iff_ (nI_ge (b := 8) hi (by omega)) (bx (ls_fL h6) ?_), M7, _, rfl, h7, fun f hf => ?_, f39, f40, f41, f42, f43, fun l hl => ?_⟩
            · have hn : some (Sum.inl (M7, nI i + 1)) = (some (Sum.inl (M7, nI (i + 1))) : Option ((mm_M × Int32) ⊕ (Int32 × mm_M))) := by rw [nI_1]
              by_cases c : i < a
              · rw [if_pos c] at e7
                exact iff_ (nI_ge c (by omega)) (bx e7 hn)
              · rw [if_neg c] at e7
                exact ift (nI_le (by omega) (by omega)) (bx e7 hn)
            · funext j
              rw [mm_u, if_neg (by omega), f1 f hf]
            · rw [mm_u]
              by_cases e : l = i
              · rw [if_pos ⟨rfl, e⟩, e]
              · rw [if_neg (fun z => e z.2)]
                exact f38 l (by omega)) (by
            rintro x ⟨M6, τ, rfl, h6, f1, f39, f40, f41, f42, f43, f38⟩
            have w38 : ∀ l, l < a → τ 38 l = 1 := fun l hl => (f38 l (by omega)).trans (if_pos hl)
            have bq := ls_bestQ h6 (by rw [f40, f41]; omega) (by rw [f39]; omega) (by rw [f39]; omega) (fun l hl => by rw [f39] at hl; rw [w38 l hl]; omega)
            rw [f39, f40, f41, ls_bq_cg (v := fun _ => 1) w38] at bq
            exact ⟨_, ift (nI_le (a := 8) (b := 8) (Nat.le_refl _) (by omega)) (mpx (bx (ls_rc h6) (bx bq rfl))), M6, τ, rfl, h6, f1, f39, f40, f41, f42, f43, w38⟩)
        obtain ⟨A1, A2, A3, A4, A5, A6, A7, A8, A9, A10⟩ := id TA
        have hcl : lc n τ M MA := lc_tst hc dA f1 ⟨by rw [A4, f39], by rw [A5, f40], by rw [A6, f41], by rw [A7, f42], by rw [A8, f43]⟩ (fun l hl => by rw [f39] at hl; rw [A10 l hl, f38 l hl])
        have bc := cl_bestQ TA (by omega) (fun l hl => ⟨Nat.le_refl _, hp⟩) ha2
        exact ⟨_, MA, M6, X2 (iff_ (Int32.not_lt.mpr hz.1) (ift hz.2 (bx r0 (bx (pe_rc (lc_kt8 hc)) (bx eA (bx (lc_r0 hcl 6 16 (by decide)) (bx (pe_rc A1) (bx bc rfl)))))))), Y2 (bx (ls_within_in _ hz) (iff_ ne10 (bx e1 (bx e2 (bx e3 (bx e4 (bx e5 hw))))))), ls_fin h6 hcl (ls_G_6 hG f1 (by
          unfold ls_O6
          rw [f39, f40, f41, f42, f43]
          exact ⟨ha, by omega, fun _ => ⟨ha2, by omega⟩, by omega, fun _ => by omega, fun l hl => by rw [f38 l hl]; exact ⟨Nat.le_refl _, Nat.le_refl _⟩⟩))⟩
      · refine ⟨-1, M, M, X2 ?_, Y2 (bx (ls_within_out _ hz) (ift rfl rfl)), ls_no hM hc hG⟩
        by_cases h1 : z < 1
        · exact ift h1 rfl
        · exact iff_ h1 (iff_ (fun q => hz ⟨Int32.not_lt.mp h1, q⟩) rfl)
    · refine ⟨-1, M, M, X ?_, Y (bx (ls_within_out _ hy) (ift rfl rfl)), ls_no hM hc hG⟩
      by_cases h1 : y < 1
      · exact ift h1 rfl
      · exact iff_ h1 (ift (Int32.not_le.mp (fun q => hy ⟨Int32.not_lt.mp h1, q⟩)) rfl)
  · refine ⟨-1, M, M, ?_, bx (ls_within_out _ hx) (ift rfl rfl), ls_no hM hc hG⟩
    by_cases h1 : x < 2
    · exact ift h1 rfl
    · exact iff_ h1 (iff_ (fun q => hx ⟨Int32.not_lt.mp h1, q⟩) rfl)
end
