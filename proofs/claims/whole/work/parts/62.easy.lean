section
variable {n k : Nat} {σ : ls_S} {B M : mm_M}
theorem ls_fL (h : ls_M n σ B M) : mm_fR M (some (n + 31)) 11 38 = some (some (ls_ad n 38)) := pfR h.1.1 h.1.2.2.1
theorem ls_aL (h : ls_M n σ B M) {j : Nat} (hj : j < 8) : mm_aL M (some (ls_ad n 38)) (nI j) = some (lN (σ 38 j)) := paL h.1.2.2.2 hj (by omega) (h.2.2.2.1 j hj)
theorem ls_tL (h : ls_M n σ B M) {j : Nat} (v : Nat) (hj : j < 8) : ∃ M1, mm_tL M (some (ls_ad n 38)) (nI j) (lN v) = some M1 ∧ ls_M n (mm_u σ 38 j v) B M1 := by
  have hl := ls_ad_lt (f := 38) (Or.inr rfl)
  have hne : ∀ f, f ∈ ls_aF → ¬ f = 38 := by decide
  have hne2 : ∀ f, f ∈ ls_sF → ¬ f = 38 := by decide
  refine ⟨_, pe_tL _ h.1.2.2.2 hj (by omega), h.1, fun g hg i hi => ?_, fun g hg => ?_, fun i hi => ?_, h.2.2.2.2.1, h.2.2.2.2.2.1, h.2.2.2.2.2.2.1, fun b hb => ⟨(h.2.2.2.2.2.2.2 b hb).1, fun i => ?_⟩⟩
  · rw [mm_u, if_neg (fun e => hne g hg e.1)]
    exact h.2.1 g hg i hi
  · rw [mm_u, if_neg (fun e => hne2 g hg e.1)]
    exact h.2.2.1 g hg
  · rw [mm_LL, mm_u]
    by_cases e : i = j
    · rw [if_pos ⟨rfl, e⟩, if_pos ⟨rfl, e⟩]
    · rw [if_neg (fun q => e q.2), if_neg (fun q => e q.2)]
      exact h.2.2.2.1 i hi
  · rw [mm_LL, if_neg (by unfold ls_ad; omega)]
    exact (h.2.2.2.2.2.2.2 b hb).2 i
theorem lc_k0 (h : lc n σ B M) : mm_k M n = some (10, 0) := lc_k h (0, 10, 0) (by decide)
theorem lc_r0 (h : lc n σ B M) (f o : Nat) (hf : (0, f, o) ∈ lc_rt) : mm_fR M (some n) 10 f = some (some (n + o)) := pfR (lc_k0 h) (lc_r h _ hf)
-- rule, table, most
theorem ca_rule (hM : ls_M n σ M M) (hc : lc n σ M M) (hG : ls_G k σ) (x : Int32) : ls_cc n k M (fun M => f_X9_rule M (some n) x) (fun M => f_X10_rule M (some (n + 31)) x) := by
  by_cases hx : 0 ≤ x ∧ x ≤ 2
  · obtain ⟨j, hj, rfl⟩ := pe_argle (n := 2) (by omega) hx.1 hx.2
    obtain ⟨i1, i2, i3, i4, i5, i6, i7, i8, i9, ia, ib, ic⟩ := id hc.2.1
    have hd : lc_di (fun a => a = n) M (mm_sI M n 8 (nI j)) := lc_di_I (P := fun a => a = n) (lc_di_rf _ M) rfl _ _
    have hc1 : lc n (mm_u σ 4 0 j) M (mm_sI M n 8 (nI j)) := lc_fr hc hd (fun a ha => by omega) (ls_hp_u (ls_hp_rf σ) (by omega)) ⟨⟨by rw [mm_II, if_pos ⟨rfl, rfl⟩]; rfl, by rw [mm_II, if_neg (by omega)]; exact i1.2.1, by rw [mm_II, if_neg (by omega)]; exact i1.2.2⟩, lc_t2 i2 hd (by omega), lc_t3 i3 hd (by omega) (by omega), lc_t4 i4 hd (fun p hp => by omega) (by omega) (by omega), lc_t5 i5 hd (fun p hp => by have := lc_lo29 (show p < 5 by omega); omega), lc_t6 i6 hd (fun p hp => by omega), lc_ta ia hd (by omega) (by omega) (by omega), lc_tb ib hd (by omega), lc_tc ic hd (by omega)⟩
    have hM1 := ls_M_mv hM hc1.2.2
    obtain ⟨M2, e2, h2⟩ := ls_pI hM1 4 j (by decide)
    obtain ⟨g1, g2, g3, g4, g5, g6, g7, g8⟩ := hG
    exact ⟨nI (σ 4 0), _, M2, bx (cl_isRule_in M hx) (iff_ ne10 (bx (pfI (lc_k0 hc) i1.1) (bx (pe_pI 8 _ (lc_k0 hc)) rfl))), bx (ls_within_in _ hx) (iff_ ne10 (bx (ls_fI hM1 4 (by decide)) (bx e2 rfl))), ls_fin h2 hc1 ⟨g1, ⟨hj, g2.2⟩, g3, g4, g5, g6, g7, g8⟩⟩
  · exact ⟨-1, M, M, bx (cl_isRule_out M hx) (ift rfl rfl), bx (ls_within_out _ hx) (ift rfl rfl), ls_no hM hc hG⟩
theorem ca_table (hM : ls_M n σ M M) (hc : lc n σ M M) (hG : ls_G k σ) (x y : Int32) : ls_cc n k M (fun M => f_X9_table M (some n) x y) (fun M => f_X10_table M (some (n + 31)) x y) := by
  by_cases hx : 0 ≤ x ∧ x ≤ 3
  · by_cases hy : 1 ≤ y ∧ y ≤ 100000
    · obtain ⟨a, ha, rfl⟩ := pe_argle (n := 3) (by omega) hx.1 hx.2
      obtain ⟨j, hj1, hj, rfl⟩ := pe_arg1 (n := 100000) (by omega) hy.1 hy.2
      obtain ⟨i1, i2, i3, i4, i5, i6, i7, i8, i9, ia, ib, ic⟩ := id hc.2.1
      have hd : lc_di (fun b => b = n + 18) M (mm_sI M (n + 18) a (nI j)) := lc_di_I (P := fun b => b = n + 18) (lc_di_rf _ M) rfl _ _
      have hc1 : lc n (mm_u σ 5 a j) M (mm_sI M (n + 18) a (nI j)) := lc_fr hc hd (fun a ha => by omega) (ls_hp_u (ls_hp_rf σ) (by omega)) ⟨lc_t1 i1 hd (by omega), fun b hb => by
          rw [mm_II, mm_u]
          by_cases e : b = a
          · rw [if_pos ⟨rfl, e⟩, if_pos ⟨rfl, e⟩]
          · rw [if_neg (fun q => e q.2), if_neg (fun q => e q.2)]; exact i2 b hb, lc_t3 i3 hd (by omega) (by omega), lc_t4 i4 hd (fun p hp => by have := lc_lo_ne hp hp; omega) (by omega) (by omega), lc_t5 i5 hd (fun p hp => by have := lc_lo_ne (show p < 5 by omega) (show p < 5 by omega); omega), lc_t6 i6 hd (fun p hp => by have := lc_lo_ne (show p < 5 by omega) (show p < 5 by omega); omega), lc_ta ia hd (by omega) (by omega) (by omega), lc_tb ib hd (by omega), lc_tc ic hd (by omega)⟩
      have hM1 := ls_M_mv hM hc1.2.2
      obtain ⟨M2, e2, h2⟩ := ls_tI hM1 5 a j (by decide) rfl (show a < 4 by omega)
      obtain ⟨g1, g2, g3, g4, g5, g6, g7, g8⟩ := hG
      refine ⟨nI (σ 5 a), _, M2, bx (cl_isAnswer_in M hx) (iff_ ne10 (iff_ (Int32.not_lt.mpr hy.1) (ift hy.2 (bx (lc_r0 hc 7 18 (by decide)) (bx (paI (lc_k hc (18, 12, 4) (by decide)) (show a < 4 by omega) (by omega) (i2 a (by omega))) (bx (lc_r0 hc 7 18 (by decide)) (bx (pe_tI _ (lc_k hc (18, 12, 4) (by decide)) (show a < 4 by omega) (by omega)) rfl))))))), bx (ls_within_in _ hx) (iff_ ne10 (bx (ls_within_in _ hy) (iff_ ne10 (bx (ls_fR hM1 5 (by decide)) (bx (ls_aI hM1 5 a (by decide) (show a < 4 by omega)) (bx (ls_fR hM1 5 (by decide)) (bx e2 rfl))))))), ls_fin h2 hc1 ⟨g1, ⟨g2.1, fun b hb => ?_, g2.2.2⟩, g3, g4, g5, g6, g7, g8⟩⟩
      rw [mm_u]
      split
      · exact hj
      · exact g2.2.1 b hb
    · refine ⟨-1, M, M, bx (cl_isAnswer_in M hx) (iff_ ne10 ?_), bx (ls_within_in _ hx) (iff_ ne10 (bx (ls_within_out _ hy) (ift rfl rfl))), ls_no hM hc hG⟩
      by_cases h1 : y < 1
      · exact ift h1 rfl
      · exact iff_ h1 (iff_ (fun q => hy ⟨Int32.not_lt.mp h1, q⟩) rfl)
  · exact ⟨-1, M, M, bx (cl_isAnswer_out M hx) (ift rfl rfl), bx (ls_within_out _ hx) (ift rfl rfl), ls_no hM hc hG⟩
theorem ca_most (hM : ls_M n σ M M) (hc : lc n σ M M) (hG : ls_G k σ) (x y : Int32) : ls_cc n k M (fun M => f_X9_most M (some n) x y) (fun M => f_X10_most M (some (n + 31)) x y) := by
  by_cases hx : 0 ≤ x ∧ x ≤ 400
  · by_cases hy : 0 ≤ y ∧ y ≤ 100
    · obtain ⟨a, ha, rfl⟩ := pe_argle (n := 400) (by omega) hx.1 hx.2
      obtain ⟨j, hj, rfl⟩ := pe_argle (n := 100) (by omega) hy.1 hy.2
      obtain ⟨i1, i2, i3, i4, i5, i6, i7, i8, i9, ia, ib, ic⟩ := id hc.2.1
      have hd : lc_di (fun b => b = n) M (mm_sI (mm_sI M n 9 (nI a)) n 10 (nI j)) := lc_di_I (P := fun b => b = n) (lc_di_I (P := fun b => b = n) (lc_di_rf _ M) rfl _ _) rfl _ _
      have hc1 : lc n (mm_u (mm_u σ 6 0 a) 7 0 j) M (mm_sI (mm_sI M n 9 (nI a)) n 10 (nI j)) := lc_fr hc hd (fun a ha => by omega) (ls_hp_u (ls_hp_u (ls_hp_rf σ) (by omega)) (by omega)) ⟨⟨by rw [mm_II, if_neg (by omega), mm_II, if_neg (by omega)]; exact i1.1, by rw [mm_II, if_neg (by omega), mm_II, if_pos ⟨rfl, rfl⟩]; rfl, by rw [mm_II, if_pos ⟨rfl, rfl⟩]; rfl⟩, lc_t2 i2 hd (by omega), lc_t3 i3 hd (by omega) (by omega), lc_t4 i4 hd (fun p hp => by omega) (by omega) (by omega), lc_t5 i5 hd (fun p hp => by have := lc_lo29 (show p < 5 by omega); omega), lc_t6 i6 hd (fun p hp => by omega), lc_ta ia hd (by omega) (by omega) (by omega), lc_tb ib hd (by omega), lc_tc ic hd (by omega)⟩
      have hM1 := ls_M_mv hM hc1.2.2
      obtain ⟨M2, e2, h2⟩ := ls_pI hM1 6 a (by decide)
      obtain ⟨M3, e3, h3⟩ := ls_pI h2 7 j (by decide)
      obtain ⟨g1, g2, g3, g4, g5, g6, g7, g8⟩ := hG
      exact ⟨1, _, M3, iff_ (Int32.not_lt.mpr hx.1) (iff_ (Int32.not_lt.mpr hx.2) (iff_ (Int32.not_lt.mpr hy.1) (ift hy.2 (bx (pe_pI 9 _ (lc_k0 hc)) (bx (pe_pI 10 _ (show mm_k M n = some (10, 0) from lc_k0 hc)) rfl))))), bx (ls_within_in _ hx) (iff_ ne10 (bx (ls_within_in _ hy) (iff_ ne10 (bx e2 (bx e3 rfl))))), ls_fin h3 hc1 ⟨g1, ⟨g2.1, g2.2.1, ha, hj, g2.2.2.2.2⟩, g3, g4, g5, g6, g7, g8⟩⟩
    · refine ⟨-1, M, M, iff_ (Int32.not_lt.mpr hx.1) (iff_ (Int32.not_lt.mpr hx.2) ?_), bx (ls_within_in _ hx) (iff_ ne10 (bx (ls_within_out _ hy) (ift rfl rfl))), ls_no hM hc hG⟩
      by_cases h1 : y < 0
      · exact ift h1 rfl
      · exact iff_ h1 (iff_ (fun q => hy ⟨Int32.not_lt.mp h1, q⟩) rfl)
  · refine ⟨-1, M, M, ?_, bx (ls_within_out _ hx) (ift rfl rfl), ls_no hM hc hG⟩
    by_cases h1 : x < 0
    · exact ift h1 rfl
    · exact iff_ h1 (ift (Int32.not_le.mp (fun q => hx ⟨Int32.not_lt.mp h1, q⟩)) rfl)
-- next, log, logged
theorem ca_next (hM : ls_M n σ M M) (hc : lc n σ M M) (hG : ls_G k σ) (x : Int32) : ls_c0 M (fun M => f_X9_next M (some n) x) (fun M => f_X10_next M (some (n + 31)) x) := by
  rcases pe_pupil x with ⟨p, hp, rfl⟩ | hx
  · have i5 := hc.2.1.2.2.2.2.1 p hp
    have h4 := hG.2.2.2.1 p hp
    have h120 := hG.1.1
    by_cases h0 : σ 10 p = 0
    · refine ⟨-4, bx (pe_rc (lc_k0 hc)) (bx (lc_learnerAt hc hp) (iff_ (fun q => nomatch q) (bx (pfI (lc_kla hc (by omega)) i5.2) (ift (by rw [h0]; decide) rfl)))), bx (ls_isPupil_in M hp) (iff_ ne10 (bx (ls_fR hM 10 (by decide)) (bx (ls_aI hM 10 p (by decide) hp) (ift (show nI (σ 10 p) = 0 by rw [h0]; decide) rfl))))⟩
    · refine ⟨nI (σ 9 (480 * p)), bx (pe_rc (lc_k0 hc)) (bx (lc_learnerAt hc hp) (iff_ (fun q => nomatch q) (bx (pfI (lc_kla hc (by omega)) i5.2) (iff_ (nI_ne0 (by omega) (by omega)) (bx (pe_rc (lc_kla hc (by omega))) (bx (a := nI (σ 9 (480 * p))) (bx (pfI (lc_kla hc (by omega)) i5.2) (iff_ (nI_nle (by omega) (by omega)) (bx (pfR (lc_kla hc (by omega)) (lc_rlr hc (by omega))) (bx (paI (i := 0) (lc_klr hc (by omega)) (by omega) (by omega) (hc.2.1.2.2.2.2.2.1 p hp 0 (by omega))) rfl)))) rfl)))))), bx (ls_isPupil_in M hp) (iff_ ne10 (bx (ls_fR hM 10 (by decide)) (bx (ls_aI hM 10 p (by decide) hp) (iff_ (show ¬ nI (σ 10 p) = 0 from nI_ne0 (by omega) (by omega)) (bx (ls_fR hM 9 (by decide)) (bx (a := nI (σ 9 (480 * p))) ?_ rfl))))))⟩
      rw [show nI p * 480 = nI (480 * p) by rw [Nat.mul_comm]; exact pk_mul p 480]
      exact ls_aI hM 9 (480 * p) (by decide) (show 480 * p < 1920 by omega)
  · exact ⟨-1, bx (pe_rc (lc_k0 hc)) (bx (lc_learnerOut hc hx) (ift rfl rfl)), bx (ls_isPupil_out M hx) (ift rfl rfl)⟩
theorem lc_kent (h : lc n σ B M) : mm_k M (n + 11) = some (0, 0) := lc_k h (11, 0, 0) (by decide)
theorem lc_esz (h : lc n σ B M) : f_Jx4a65c_size_8abf5 M (some (n + 11)) = some (nI (σ 28 0)) := by
  rw [lc_size (lc_kent h), h.2.1.2.2.2.1.2.2]
theorem lc_eget (h : lc n σ B M) {i : Nat} (hi : i < σ 28 0) (h28 : σ 28 0 ≤ 512) : f_Jx4a65c_get_915e3 M (some (n + 11)) (nI i) = some (some (lc_en n M i)) := lc_get (lc_kent h) h.1.2.2.1.2.2.1 h.2.1.2.2.2.1.2.2 (by omega) hi
theorem ca_log (hM : ls_M n σ M M) (hc : lc n σ M M) : ls_c0 M (fun M => f_X9_log M (some n)) (fun M => f_X10_log M (some (n + 31))) :=
  ⟨nI (σ 28 0), bx (lc_r0 hc 4 11 (by decide)) (bx (pe_rc (lc_kent hc)) (bx (lc_esz hc) rfl)), bx (ls_fI hM 28 (by decide)) rfl⟩
theorem ca_logged (hM : ls_M n σ M M) (hc : lc n σ M M) (hG : ls_G k σ) (hk : k ≤ 512) (x y : Int32) : ls_c0 M (fun M => f_X9_logged M (some n) x y) (fun M => f_X10_logged M (some (n + 31)) x y) := by
  have h28 := hG.2.2.2.2.1.1
  by_cases hx : 0 ≤ x ∧ x < nI (σ 28 0)
  · obtain ⟨i, hi, rfl⟩ := pe_arg (by omega) hx.1 hx.2
    obtain ⟨⟨a0, a1, a2, a3, -, -⟩, -⟩ := hc.2.1.2.2.2.2.2.2.2.2.1 i hi
    obtain ⟨b1, b2, -⟩ := hG.2.2.2.2.1.2 i hi
    have ke := (hc.1.2.2.2.2.2.2.2 i hi).1
    have X : ∀ {r : Int32}, f_X3_tell M (some (lc_en n M i)) y = some r → f_X9_logged M (some n) (nI i) y = some r := fun q => iff_ (Int32.not_lt.mpr hx.1) (bx (lc_r0 hc 4 11 (by decide)) (bx (pe_rc (lc_kent hc)) (bx (lc_esz hc) (ift hx.2 (bx (lc_r0 hc 4 11 (by decide)) (bx (pe_rc (lc_kent hc)) (bx (lc_eget hc hi (by omega)) (bx (pe_cc ke) (bx (pe_rc ke) (bx q rfl))))))))))
    have Y : ∀ {r : Int32}, (if y = 0 then f_X10_logged_60 M (some (n + 31)) (nI i) else if y = 1 then f_X10_logged_71 M (nI (σ 18 i) - nI (σ 18 i) / 480 * 480) else if y = 2 then f_X10_logged_75 M (nI (σ 18 i) - nI (σ 18 i) / 480 * 480) else if y = 3 then f_X10_logged_79 M (some (n + 31)) (nI i) else if y = 4 then f_X10_logged_86 M (some (n + 31)) (nI i) else f_X10_logged_93 M) = some r → f_X10_logged M (some (n + 31)) (nI i) y = some r := fun q => iff_ (Int32.not_lt.mpr hx.1) (bx (ls_fI hM 28 (by decide)) (ift hx.2 (bx (ls_fR hM 18 (by decide)) (bx (ls_aI hM 18 i (by decide) (show i < 3000 by omega)) q))))
    have hr : nI (σ 18 i) - nI (σ 18 i) / 480 * 480 = nI (σ 18 i % 480) := pk_rem (d := 480) (by omega) (by omega) (by omega)
    by_cases y0 : y = 0
    · refine ⟨nI (σ 18 i / 480), X (ift y0 (bx (pfI ke a0) rfl)), Y (ift y0 (bx (ls_fR hM 18 (by decide)) (bx (ls_aI hM 18 i (by decide) (show i < 3000 by omega)) ?_)))⟩
      exact congrArg some (pk_div (d := 480) (show σ 18 i < 2 ^ 31 by omega) (by omega) (by omega))
    · by_cases y1 : y = 1
      · exact ⟨nI (σ 18 i % 480) / 4, X (iff_ y0 (ift y1 (bx (pfI ke a1) rfl))), Y (iff_ y0 (ift y1 (by rw [hr]; rfl)))⟩
      · by_cases y2 : y = 2
        · exact ⟨nI (σ 18 i % 480) - nI (σ 18 i % 480) / 4 * 4, X (iff_ y0 (iff_ y1 (ift y2 (bx (pfI ke a1) rfl)))), Y (iff_ y0 (iff_ y1 (ift y2 (by rw [hr]; rfl))))⟩
        · by_cases y3 : y = 3
          · exact ⟨nI (σ 19 i), X (iff_ y0 (iff_ y1 (iff_ y2 (ift y3 (bx (pfI ke a2) rfl))))), Y (iff_ y0 (iff_ y1 (iff_ y2 (ift y3 (bx (ls_fR hM 19 (by decide)) (bx (ls_aI hM 19 i (by decide) (show i < 3000 by omega)) rfl))))))⟩
          · by_cases y4 : y = 4
            · exact ⟨nI (σ 20 i), X (iff_ y0 (iff_ y1 (iff_ y2 (iff_ y3 (ift y4 (bx (pfI ke a3) rfl)))))), Y (iff_ y0 (iff_ y1 (iff_ y2 (iff_ y3 (ift y4 (bx (ls_fR hM 20 (by decide)) (bx (ls_aI hM 20 i (by decide) (show i < 3000 by omega)) rfl)))))))⟩
            · exact ⟨-1, X (iff_ y0 (iff_ y1 (iff_ y2 (iff_ y3 (iff_ y4 rfl))))), Y (iff_ y0 (iff_ y1 (iff_ y2 (iff_ y3 (iff_ y4 rfl)))))⟩
  · by_cases h0 : x < 0
    · exact ⟨-1, ift h0 rfl, ift h0 rfl⟩
    · have hx2 : ¬ x < nI (σ 28 0) := fun q => hx ⟨Int32.not_lt.mp h0, q⟩
      exact ⟨-1, iff_ h0 (bx (lc_r0 hc 4 11 (by decide)) (bx (pe_rc (lc_kent hc)) (bx (lc_esz hc) (iff_ hx2 rfl)))), iff_ h0 (bx (ls_fI hM 28 (by decide)) (iff_ hx2 rfl))⟩
-- load, put
theorem lc_kev (h : lc n σ B M) : mm_k M (n + 12) = some (5, 0) := lc_k h (12, 5, 0) (by decide)
theorem lc_rev (h : lc n σ B M) (f o : Nat) (hf : (12, f, o) ∈ lc_rt) : mm_fR M (some (n + 12)) 5 f = some (some (n + o)) := pfR (lc_kev h) (lc_r h _ hf)
theorem ca_load (hM : ls_M n σ M M) (hc : lc n σ M M) (x : Int32) : ls_c0 M (fun M => f_X9_load M (some n) x) (fun M => f_X10_load M (some (n + 31)) x) := by
  obtain ⟨h01, hm, he⟩ := hc.2.1.2.2.2.2.2.2.2.2.2.1
  have X : ∀ {r : Int32}, f_X4_loadOn M (some (n + 12)) x = some r → f_X9_load M (some n) x = some r := fun q => bx (lc_r0 hc 5 12 (by decide)) (bx (pe_rc (lc_kev hc)) (bx q rfl))
  rcases h01 with h0 | h1
  · exact ⟨-1, X (bx (pfI (lc_kev hc) hm) (ift (by rw [h0]; decide) rfl)), bx (ls_fI hM 37 (by decide)) (ift (show nI (σ 37 0) = 0 by rw [h0]; decide) rfl)⟩
  · have e1 : ¬ nI (σ 37 0) = 0 := by rw [h1]; decide
    by_cases hx : 0 ≤ x ∧ x ≤ 80
    · obtain ⟨d, hd, rfl⟩ := pe_argle (n := 80) (by omega) hx.1 hx.2
      exact ⟨nI (σ 36 d), X (bx (pfI (lc_kev hc) hm) (iff_ e1 (iff_ (Int32.not_lt.mpr hx.1) (bx (lc_rev hc 3 15 (by decide)) (bx (pe_ln (lc_k hc (15, 12, 81) (by decide)) (by omega)) (ift (nI_lt (b := 81) (by omega) (by omega)) (bx (lc_rev hc 3 15 (by decide)) (bx (paI (lc_k hc (15, 12, 81) (by decide)) (show d < 81 by omega) (by omega) ((he h1).1 d (by omega))) rfl)))))))), bx (ls_fI hM 37 (by decide)) (iff_ e1 (bx (ls_within_in _ hx) (iff_ ne10 (bx (ls_fR hM 36 (by decide)) (bx (ls_aI hM 36 d (by decide) (show d < 81 by omega)) rfl)))))⟩
    · refine ⟨-1, X (bx (pfI (lc_kev hc) hm) (iff_ e1 ?_)), bx (ls_fI hM 37 (by decide)) (iff_ e1 (bx (ls_within_out _ hx) (ift rfl rfl)))⟩
      by_cases h0 : x < 0
      · exact ift h0 rfl
      · refine iff_ h0 (bx (lc_rev hc 3 15 (by decide)) (bx (pe_ln (lc_k hc (15, 12, 81) (by decide)) (by omega)) (iff_ (fun q => hx ⟨Int32.not_lt.mp h0, ?_⟩) rfl)))
        obtain ⟨d, hd, rfl⟩ := pe_arg (n := 81) (by omega) (Int32.not_lt.mp h0) q
        exact nI_le (b := 80) (by omega) (by omega)
theorem ca_put (hM : ls_M n σ M M) (hc : lc n σ M M) (hG : ls_G k σ) (x y : Int32) : ls_c0 M (fun M => f_X9_put M (some n) x y) (fun M => f_X10_put M (some (n + 31)) x y) := by
  obtain ⟨h01, hm, he⟩ := hc.2.1.2.2.2.2.2.2.2.2.2.1
  have O1 := hG.1
  have h120 := O1.1
  have ks : mm_rc M (some (n + 8)) 7 = some () := pe_rc (lc_kla hc (p := 4) (by omega))
  by_cases hs : ls_sideI σ x y
  · obtain ⟨c, s, hc1, hs1, rfl, rfl⟩ := hs
    have h4 := (O1.2.1 c hc1).2
    have ep : f_X9_placeOf M (nI c) (nI s) = some (nI (4 * c + s)) := by
      show some (4 * nI c + nI s) = _
      rw [show 4 * nI c = nI (4 * c) from pk_mul 4 c, nI_add]
    have X : ∀ {r : Int32}, f_X4_dayOf M (some (n + 12)) (nI (4 * c + s)) = some r → f_X9_put M (some n) (nI c) (nI s) = some r := fun q => bx (lc_r0 hc 3 8 (by decide)) (bx ks (bx (lc_memOf hc O1 (p := 4) (by omega) hc1 hs1) (iff_ (fun q => nomatch q) (bx (lc_r0 hc 5 12 (by decide)) (bx ep (bx (pe_rc (lc_kev hc)) (bx q rfl)))))))
    rcases h01 with h0 | h1
    · exact ⟨-1, X (bx (pfI (lc_kev hc) hm) (ift (by rw [h0]; decide) rfl)), bx (ls_fI hM 37 (by decide)) (ift (show nI (σ 37 0) = 0 by rw [h0]; decide) rfl)⟩
    · have e1 : ¬ nI (σ 37 0) = 0 := by rw [h1]; decide
      refine ⟨ls_en 35 (σ 35 (4 * c + s)), X (bx (pfI (lc_kev hc) hm) (iff_ e1 (iff_ (nI_pos (by omega)) (bx (lc_rev hc 2 14 (by decide)) (bx (pe_ln (lc_k hc (14, 12, 480) (by decide)) (by omega)) (ift (nI_lt (b := 480) (by omega) (by omega)) (bx (lc_rev hc 2 14 (by decide)) (bx (paI (lc_k hc (14, 12, 480) (by decide)) (show 4 * c + s < 480 by omega) (by omega) ((he h1).2 _ (by omega))) rfl)))))))), bx (ls_fI hM 37 (by decide)) (iff_ e1 (bx (ls_rc hM) (bx (ls_isSide_in hM h120 hc1 hs1 (by omega)) (iff_ ne10 (bx (ls_fR hM 35 (by decide)) (bx (a := ls_en 35 (σ 35 (4 * c + s))) ?_ rfl))))))⟩
      rw [show 4 * nI c = nI (4 * c) from pk_mul 4 c, nI_add]
      exact ls_aI hM 35 _ (by decide) (show 4 * c + s < 480 by omega)
  · refine ⟨-1, bx (lc_r0 hc 3 8 (by decide)) (bx ks (bx (lc_memOfOut hc O1 (p := 4) (by omega) hs) (ift rfl rfl))), bx (ls_fI hM 37 (by decide)) ?_⟩
    rcases h01 with h0 | h1
    · exact ift (show nI (σ 37 0) = 0 by rw [h0]; decide) rfl
    · exact iff_ (show ¬ nI (σ 37 0) = 0 by rw [h1]; decide) (bx (ls_rc hM) (bx (ls_isSide_out hM h120 (fun c hc => by have := (O1.2.1 c hc).2; omega) hs) (ift rfl rfl)))
-- weight, level
theorem lc_kt8 (h : lc n σ B M) : mm_k M (n + 16) = some (8, 0) := lc_k h (16, 8, 0) (by decide)
theorem lc_kw8 (h : lc n σ B M) : mm_k M (n + 17) = some (13, 8) := lc_k h (17, 13, 8) (by decide)
theorem lc_rw8 (h : lc n σ B M) : mm_fR M (some (n + 16)) 8 0 = some (some (n + 17)) := pfR (lc_kt8 h) (lc_r h (16, 0, 17) (by decide))
theorem ls_wb (h : ls_O6 σ) {l : Nat} (hl : l < σ 39 0) : 1 ≤ σ 38 l ∧ σ 38 l ≤ 999 ^ 6 := ⟨(h.2.2.2.2.2 l hl).1, Nat.le_trans (h.2.2.2.2.2 l hl).2 (Nat.pow_le_pow_right (by omega) h.2.2.2.1)⟩
theorem ca_weight (hM : ls_M n σ M M) (hc : lc n σ M M) (hG : ls_G k σ) (x : Int32) : ls_c0 M (fun M => f_X9_weight M (some n) x) (fun M => f_X10_weight M (some (n + 31)) x) := by
  obtain ⟨b1, b2, b3, b4, b5⟩ := hc.2.1.2.2.2.2.2.2.2.2.2.2.1
  have h8 := hG.2.2.2.2.2.1.1
  have X : ∀ {r : Int64}, f_X7_weightOf M (some (n + 16)) x = some r → f_X9_weight M (some n) x = some r := fun q => bx (lc_r0 hc 6 16 (by decide)) (bx (pe_rc (lc_kt8 hc)) (bx q rfl))
  by_cases h0 : x < 0
  · exact ⟨-1, X (ift h0 rfl), ift h0 rfl⟩
  · by_cases h1 : nI (σ 39 0) ≤ x
    · exact ⟨-1, X (iff_ h0 (bx (pfI (lc_kt8 hc) b1) (ift h1 rfl))), iff_ h0 (bx (ls_fI hM 39 (by decide)) (ift h1 rfl))⟩
    · obtain ⟨l, hl, rfl⟩ := pe_arg (by omega) (Int32.not_lt.mp h0) (Int32.not_le.mp h1)
      exact ⟨lN (σ 38 l), X (iff_ h0 (bx (pfI (lc_kt8 hc) b1) (iff_ h1 (bx (lc_rw8 hc) (bx (pe_ln (lc_kw8 hc) (by omega)) (ift (nI_lt (b := 8) (by omega) (by omega)) (bx (lc_rw8 hc) (bx (paL (lc_kw8 hc) (show l < 8 by omega) (by omega) (hc.2.1.2.2.2.2.2.2.2.2.2.2.2 l hl)) rfl)))))))), iff_ h0 (bx (ls_fI hM 39 (by decide)) (iff_ h1 (bx (ls_fL hM) (bx (ls_aL hM (show l < 8 by omega)) rfl))))⟩
/-- the first of the greatest of the first ones -/
def ls_lv (w : Nat → Nat) : Nat → Nat
  | 0 => 0
  | i + 1 => if w (ls_lv w i) < w i then i else ls_lv w i
theorem ls_lv_b (w : Nat → Nat) : ∀ i, ls_lv w i ≤ i ∧ (0 < i → ls_lv w i < i)
  | 0 => ⟨Nat.le_refl _, fun h => absurd h (by omega)⟩
  | i + 1 => by
    have := ls_lv_b w i
    unfold ls_lv
    split <;> omega
theorem ca_level (hM : ls_M n σ M M) (hc : lc n σ M M) (hG : ls_G k σ) : ls_c0 M (fun M => f_X9_level M (some n)) (fun M => f_X10_level M (some (n + 31))) := by
  obtain ⟨b1, b2, b3, b4, b5⟩ := hc.2.1.2.2.2.2.2.2.2.2.2.2.1
  have ic := hc.2.1.2.2.2.2.2.2.2.2.2.2.2
  have h6 := hG.2.2.2.2.2.1
  have h8 := h6.1
  refine ⟨if σ 39 0 = 0 then -1 else nI (ls_lv (σ 38) (σ 39 0)), bx (lc_r0 hc 6 16 (by decide)) (bx (pe_rc (lc_kt8 hc)) (bx (a := if σ 39 0 = 0 then -1 else nI (ls_lv (σ 38) (σ 39 0))) ?_ rfl)), ?_⟩
  · refine pe_for (body := fun x : Int32 × Int64 × Int32 => f_X7_likeliest_7 M (some (n + 16)) x.1 x.2.1 x.2.2) (fun i => (if i = 0 then -1 else nI (ls_lv (σ 38) i), if i = 0 then 0 else lN (σ 38 (ls_lv (σ 38) i)), nI i)) (σ 39 0) (fun i hi => ?_) ?_
    · have hw := ls_wb h6 hi
      have h31 : (999 : Nat) ^ 6 < 2 ^ 63 := by decide
      refine bx (pfI (lc_kt8 hc) b1) (iff_ (nI_ge hi (by omega)) (bx (lc_rw8 hc) (bx (pe_ln (lc_kw8 hc) (by omega)) (iff_ (nI_ge (b := 8) (by omega) (by omega)) (bx (lc_rw8 hc) (bx (paL (lc_kw8 hc) (show i < 8 by omega) (by omega) (ic i hi)) ?_))))))
      have hnext : ∀ (u : Int32) (w : Int64), f_X7_likeliest_49 M (some (n + 16)) u w (nI i) = some (.inl (u, w, nI (i + 1))) := fun u w => by
        show some (Sum.inl (u, w, nI i + 1)) = _
        rw [nI_1]
      by_cases h0 : i = 0
      · subst h0
        refine iff_ (fun q => ?_) (bx (lc_rw8 hc) (bx (paL (lc_kw8 hc) (show 0 < 8 by omega) (by omega) (ic 0 hi)) ?_))
        · have := (pk_lLE (by omega) (by omega)).mp ((lg_le (lN (σ 38 0)) (lN 0)).mp q)
          omega
        · rw [hnext]
          have e : ls_lv (σ 38) 1 = 0 := if_neg (Nat.lt_irrefl _)
          show _ = some (Sum.inl (nI (ls_lv (σ 38) 1), lN (σ 38 (ls_lv (σ 38) 1)), nI 1))
          rw [e]
      · have hw2 := ls_wb h6 (l := ls_lv (σ 38) i) (by have := (ls_lv_b (σ 38) i).2 (by omega); omega)
        simp only [if_neg h0, if_neg (Nat.succ_ne_zero i)]
        by_cases hl : σ 38 (ls_lv (σ 38) i) < σ 38 i
        · rw [show ls_lv (σ 38) (i + 1) = i from if_pos hl]
          refine iff_ (fun q => ?_) (bx (lc_rw8 hc) (bx (paL (lc_kw8 hc) (show i < 8 by omega) (by omega) (ic i hi)) (hnext _ _)))
          have := (pk_lLE (by omega) (by omega)).mp ((lg_le (lN (σ 38 i)) (lN (σ 38 (ls_lv (σ 38) i)))).mp q)
          omega
        · rw [show ls_lv (σ 38) (i + 1) = ls_lv (σ 38) i from if_neg hl]
          exact ift ((lg_le _ _).mpr ((pk_lLE (by omega) (by omega)).mpr (by omega))) (hnext _ _)
    · exact bx (pfI (lc_kt8 hc) b1) (ift (nI_le (Nat.le_refl _) (by omega)) (mpx rfl))
  · refine bx (ls_fI hM 39 (by decide)) ?_
    by_cases h0 : σ 39 0 = 0
    · rw [if_pos h0]
      exact ift (show nI (σ 39 0) = 0 by rw [h0]; decide) rfl
    · rw [if_neg h0]
      refine iff_ (show ¬ nI (σ 39 0) = 0 from nI_ne0 (by omega) (by omega)) ?_
      refine Eq.trans (show f_X10_level_9 M (some (n + 31)) = mm_w (fun x : Int32 × Int32 => f_X10_level_13 M (some (n + 31)) x.1 x.2) (nI (ls_lv (σ 38) 1), nI 1) by rw [show ls_lv (σ 38) 1 = 0 from if_neg (Nat.lt_irrefl _)]; rfl) ?_
      refine pe_for2 (body := fun x : Int32 × Int32 => f_X10_level_13 M (some (n + 31)) x.1 x.2) (fun i => (nI (ls_lv (σ 38) i), nI i)) 1 (σ 39 0) (by omega) (fun i h1 hi => ?_) ?_
      · have hb := (ls_lv_b (σ 38) i).2 (by omega)
        have hw := ls_wb h6 hi
        have hw2 := ls_wb h6 (l := ls_lv (σ 38) i) (by omega)
        have h31 : (999 : Nat) ^ 6 < 2 ^ 63 := by decide
        refine bx (ls_fI hM 39 (by decide)) (iff_ (show ¬ nI (σ 39 0) ≤ nI i from nI_ge hi (by omega)) (bx (ls_fL hM) (bx (ls_aL hM (show i < 8 by omega)) (bx (ls_fL hM) (bx (ls_aL hM (show ls_lv (σ 38) i < 8 by omega)) ?_)))))
        have hnext : ∀ (u : Int32), f_X10_level_42 M (some (n + 31)) (nI i) u = some (.inl (u, nI (i + 1))) := fun u => by
          show some (Sum.inl (u, nI i + 1)) = _
          rw [nI_1]
        by_cases hl : σ 38 (ls_lv (σ 38) i) < σ 38 i
        · rw [show ls_lv (σ 38) (i + 1) = i from if_pos hl]
          refine iff_ (fun q => ?_) (hnext _)
          have := (pk_lLE (by omega) (by omega)).mp ((lg_le (lN (σ 38 i)) (lN (σ 38 (ls_lv (σ 38) i)))).mp q)
          omega
        · rw [show ls_lv (σ 38) (i + 1) = ls_lv (σ 38) i from if_neg hl]
          exact ift ((lg_le _ _).mpr ((pk_lLE (by omega) (by omega)).mpr (by omega))) (hnext _)
      · exact bx (ls_fI hM 39 (by decide)) (ift (show nI (σ 39 0) ≤ nI (σ 39 0) from nI_le (Nat.le_refl _) (by omega)) (mpx rfl))
end
