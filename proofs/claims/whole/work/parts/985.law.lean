section
variable {n i L : Nat} {σ : ls_S} {M : mm_M} {sc : Option Nat} {xs : Nat → Int32}
theorem lwx_sc {a c : Nat} (h : a + c < L) (hL : L ≤ 2560) : mm_sc xs L (nI a + nI c) = some (xs (a + c)) := by
  rw [nI_add]
  unfold mm_sc
  rw [if_pos (nI_in h (by omega)), nI_clamp (by omega)]
theorem lwx_sub (h : 5 ≤ L) : nI L - 5 = nI (L - 5) := by
  have e : nI L = nI (L - 5) + 5 := (congrArg nI (show L = (L - 5) + 5 by omega)).trans (nI_add (L - 5) 5).symm
  rw [e, Int32.add_sub_cancel]
theorem lwx_end (hL : L ≤ 2560) (hi : i ≤ 512) (h : ¬ nI L - 5 < nI (5 * i)) : 5 * i + 5 ≤ L := by
  by_cases h5 : 5 ≤ L
  · rw [lwx_sub h5] at h
    by_cases q : 5 * i + 5 ≤ L
    · exact q
    · exact absurd (nI_lt (a := L - 5) (b := 5 * i) (by omega) (by omega)) h
  · have hn : nI L - 5 < 0 := by
      have : L = 0 ∨ L = 1 ∨ L = 2 ∨ L = 3 ∨ L = 4 := by omega
      rcases this with rfl | rfl | rfl | rfl | rfl <;> decide
    exact absurd (Int32.lt_of_lt_of_le hn (nI_pos' (by omega))) h

theorem lwx_b0 (hR : ls_R n i M) (hi : i < 512) (hL : L ≤ 2560) (h5 : 5 * i + 5 ≤ L) : ∃ M2, f_L_law_172 sc xs L M i (some n) (some (n + 31)) (nI (5 * i)) = some (.inl (i + 1, M2, nI (5 * i) + 5)) ∧ ls_R n (i + 1) M2 := by
  obtain ⟨σ, hM, hc, hG⟩ := hR
  have s1 : mm_sc xs L (nI (5 * i) + 1) = some (xs (5 * i + 1)) := lwx_sc (c := 1) (by omega) hL
  obtain ⟨r, M1, M2, e1, e2, hq, hk⟩ := ca_card hM hc hG  (xs (5 * i + 1))
  exact ⟨M2, bx s1 (bx (pe_rc (lc_k0 hc)) (gdx hi (b2x e1 (bx s1 (bx (pe_rc hk) (b2x e2 (ift rfl rfl))))))), hq⟩
theorem lwx_b1 (hR : ls_R n i M) (hi : i < 512) (hL : L ≤ 2560) (h5 : 5 * i + 5 ≤ L) : ∃ M2, f_L_law_195 sc xs L M i (some n) (some (n + 31)) (nI (5 * i)) = some (.inl (i + 1, M2, nI (5 * i) + 5)) ∧ ls_R n (i + 1) M2 := by
  obtain ⟨σ, hM, hc, hG⟩ := hR
  have s1 : mm_sc xs L (nI (5 * i) + 1) = some (xs (5 * i + 1)) := lwx_sc (c := 1) (by omega) hL
  have s2 : mm_sc xs L (nI (5 * i) + 2) = some (xs (5 * i + 2)) := lwx_sc (c := 2) (by omega) hL
  obtain ⟨r, M1, M2, e1, e2, hq, hk⟩ := ca_lean hM hc hG  (xs (5 * i + 1)) (xs (5 * i + 2))
  exact ⟨M2, bx s1 (bx s2 (bx (pe_rc (lc_k0 hc)) (gdx hi (b2x e1 (bx s1 (bx s2 (bx (pe_rc hk) (b2x e2 (ift rfl rfl))))))))), hq⟩
theorem lwx_b2 (hR : ls_R n i M) (hi : i < 512) (hL : L ≤ 2560) (h5 : 5 * i + 5 ≤ L) : ∃ M2, f_L_law_228 sc xs L M i (some n) (some (n + 31)) (nI (5 * i)) = some (.inl (i + 1, M2, nI (5 * i) + 5)) ∧ ls_R n (i + 1) M2 := by
  obtain ⟨σ, hM, hc, hG⟩ := hR
  have s1 : mm_sc xs L (nI (5 * i) + 1) = some (xs (5 * i + 1)) := lwx_sc (c := 1) (by omega) hL
  obtain ⟨r, M1, M2, e1, e2, hq, hk⟩ := ca_rule hM hc hG  (xs (5 * i + 1))
  exact ⟨M2, bx s1 (bx (pe_rc (lc_k0 hc)) (gdx hi (b2x e1 (bx s1 (bx (pe_rc hk) (b2x e2 (ift rfl rfl))))))), hq⟩
theorem lwx_b3 (hR : ls_R n i M) (hi : i < 512) (hL : L ≤ 2560) (h5 : 5 * i + 5 ≤ L) : ∃ M2, f_L_law_251 sc xs L M i (some n) (some (n + 31)) (nI (5 * i)) = some (.inl (i + 1, M2, nI (5 * i) + 5)) ∧ ls_R n (i + 1) M2 := by
  obtain ⟨σ, hM, hc, hG⟩ := hR
  have s1 : mm_sc xs L (nI (5 * i) + 1) = some (xs (5 * i + 1)) := lwx_sc (c := 1) (by omega) hL
  have s2 : mm_sc xs L (nI (5 * i) + 2) = some (xs (5 * i + 2)) := lwx_sc (c := 2) (by omega) hL
  obtain ⟨r, M1, M2, e1, e2, hq, hk⟩ := ca_table hM hc hG  (xs (5 * i + 1)) (xs (5 * i + 2))
  exact ⟨M2, bx s1 (bx s2 (bx (pe_rc (lc_k0 hc)) (gdx hi (b2x e1 (bx s1 (bx s2 (bx (pe_rc hk) (b2x e2 (ift rfl rfl))))))))), hq⟩
theorem lwx_b4 (hR : ls_R n i M) (hi : i < 512) (hL : L ≤ 2560) (h5 : 5 * i + 5 ≤ L) : ∃ M2, f_L_law_284 sc xs L M i (some n) (some (n + 31)) (nI (5 * i)) = some (.inl (i + 1, M2, nI (5 * i) + 5)) ∧ ls_R n (i + 1) M2 := by
  obtain ⟨σ, hM, hc, hG⟩ := hR
  have s1 : mm_sc xs L (nI (5 * i) + 1) = some (xs (5 * i + 1)) := lwx_sc (c := 1) (by omega) hL
  have s2 : mm_sc xs L (nI (5 * i) + 2) = some (xs (5 * i + 2)) := lwx_sc (c := 2) (by omega) hL
  obtain ⟨r, M1, M2, e1, e2, hq, hk⟩ := ca_most hM hc hG  (xs (5 * i + 1)) (xs (5 * i + 2))
  exact ⟨M2, bx s1 (bx s2 (bx (pe_rc (lc_k0 hc)) (gdx hi (b2x e1 (bx s1 (bx s2 (bx (pe_rc hk) (b2x e2 (ift rfl rfl))))))))), hq⟩
theorem lwx_b5 (hR : ls_R n i M) (hi : i < 512) (hL : L ≤ 2560) (h5 : 5 * i + 5 ≤ L) : ∃ M2, f_L_law_317 sc xs L M i (some n) (some (n + 31)) (nI (5 * i)) = some (.inl (i + 1, M2, nI (5 * i) + 5)) ∧ ls_R n (i + 1) M2 := by
  obtain ⟨σ, hM, hc, hG⟩ := hR
  have s1 : mm_sc xs L (nI (5 * i) + 1) = some (xs (5 * i + 1)) := lwx_sc (c := 1) (by omega) hL
  have s2 : mm_sc xs L (nI (5 * i) + 2) = some (xs (5 * i + 2)) := lwx_sc (c := 2) (by omega) hL
  obtain ⟨r, M1, M2, e1, e2, hq, hk⟩ := ca_day hM hc hG  (xs (5 * i + 1)) (xs (5 * i + 2))
  exact ⟨M2, bx s1 (bx s2 (bx (pe_rc (lc_k0 hc)) (gdx hi (b2x e1 (bx s1 (bx s2 (bx (pe_rc hk) (b2x e2 (ift rfl rfl))))))))), hq⟩
theorem lwx_b6 (hR : ls_R n i M) (hi : i < 512) (hL : L ≤ 2560) (h5 : 5 * i + 5 ≤ L) : ∃ M2, f_L_law_350 sc xs L M i (some n) (some (n + 31)) (nI (5 * i)) = some (.inl (i + 1, M2, nI (5 * i) + 5)) ∧ ls_R n (i + 1) M2 := by
  obtain ⟨σ, hM, hc, hG⟩ := hR
  have s1 : mm_sc xs L (nI (5 * i) + 1) = some (xs (5 * i + 1)) := lwx_sc (c := 1) (by omega) hL
  obtain ⟨r, M1, M2, e1, e2, hq, hk⟩ := ca_start hM hc hG  (xs (5 * i + 1))
  exact ⟨M2, bx s1 (bx (pe_rc (lc_k0 hc)) (gdx hi (b2x e1 (bx s1 (bx (pe_rc hk) (b2x e2 (ift rfl rfl))))))), hq⟩
theorem lwx_b7 (hR : ls_R n i M) (hi : i < 512) (hL : L ≤ 2560) (h5 : 5 * i + 5 ≤ L) : ∃ M2, f_L_law_373 sc xs L M i (some n) (some (n + 31)) (nI (5 * i)) = some (.inl (i + 1, M2, nI (5 * i) + 5)) ∧ ls_R n (i + 1) M2 := by
  obtain ⟨σ, hM, hc, hG⟩ := hR
  have s1 : mm_sc xs L (nI (5 * i) + 1) = some (xs (5 * i + 1)) := lwx_sc (c := 1) (by omega) hL
  obtain ⟨r, e1, e2⟩ := ca_next hM hc hG  (xs (5 * i + 1))
  exact ⟨M, bx s1 (bx (pe_rc (lc_k0 hc)) (gdx hi (bx e1 (bx s1 (bx (ls_rc hM) (bx e2 (ift rfl rfl))))))), (ls_no hM hc hG).1⟩
theorem lwx_b8 (hR : ls_R n i M) (hi : i < 512) (hL : L ≤ 2560) (h5 : 5 * i + 5 ≤ L) : ∃ M2, f_L_law_396 sc xs L M i (some n) (some (n + 31)) (nI (5 * i)) = some (.inl (i + 1, M2, nI (5 * i) + 5)) ∧ ls_R n (i + 1) M2 := by
  obtain ⟨σ, hM, hc, hG⟩ := hR
  have s1 : mm_sc xs L (nI (5 * i) + 1) = some (xs (5 * i + 1)) := lwx_sc (c := 1) (by omega) hL
  have s2 : mm_sc xs L (nI (5 * i) + 2) = some (xs (5 * i + 2)) := lwx_sc (c := 2) (by omega) hL
  obtain ⟨r, M1, M2, e1, e2, hq, hk⟩ := ca_answer hM hc hG hi (xs (5 * i + 1)) (xs (5 * i + 2))
  exact ⟨M2, bx s1 (bx s2 (bx (pe_rc (lc_k0 hc)) (gdx hi (b2x e1 (bx s1 (bx s2 (bx (pe_rc hk) (b2x e2 (ift rfl rfl))))))))), hq⟩
theorem lwx_b9 (hR : ls_R n i M) (hi : i < 512) (hL : L ≤ 2560) (h5 : 5 * i + 5 ≤ L) : ∃ M2, f_L_law_429 sc xs L M i (some n) (some (n + 31)) (nI (5 * i)) = some (.inl (i + 1, M2, nI (5 * i) + 5)) ∧ ls_R n (i + 1) M2 := by
  obtain ⟨σ, hM, hc, hG⟩ := hR
  have s1 : mm_sc xs L (nI (5 * i) + 1) = some (xs (5 * i + 1)) := lwx_sc (c := 1) (by omega) hL
  obtain ⟨r, M1, M2, e1, e2, hq, hk⟩ := ca_skip hM hc hG  (xs (5 * i + 1))
  exact ⟨M2, bx s1 (bx (pe_rc (lc_k0 hc)) (gdx hi (b2x e1 (bx s1 (bx (pe_rc hk) (b2x e2 (ift rfl rfl))))))), hq⟩
theorem lwx_b10 (hR : ls_R n i M) (hi : i < 512) (hL : L ≤ 2560) (h5 : 5 * i + 5 ≤ L) : ∃ M2, f_L_law_452 sc xs L M i (some n) (some (n + 31)) (nI (5 * i)) = some (.inl (i + 1, M2, nI (5 * i) + 5)) ∧ ls_R n (i + 1) M2 := by
  obtain ⟨σ, hM, hc, hG⟩ := hR
  have s1 : mm_sc xs L (nI (5 * i) + 1) = some (xs (5 * i + 1)) := lwx_sc (c := 1) (by omega) hL
  have s2 : mm_sc xs L (nI (5 * i) + 2) = some (xs (5 * i + 2)) := lwx_sc (c := 2) (by omega) hL
  have s3 : mm_sc xs L (nI (5 * i) + 3) = some (xs (5 * i + 3)) := lwx_sc (c := 3) (by omega) hL
  obtain ⟨r, M1, M2, e1, e2, hq, hk⟩ := ca_bury hM hc hG  (xs (5 * i + 1)) (xs (5 * i + 2)) (xs (5 * i + 3))
  exact ⟨M2, bx s1 (bx s2 (bx s3 (bx (pe_rc (lc_k0 hc)) (gdx hi (b2x e1 (bx s1 (bx s2 (bx s3 (bx (pe_rc hk) (b2x e2 (ift rfl rfl))))))))))), hq⟩
theorem lwx_b11 (hR : ls_R n i M) (hi : i < 512) (hL : L ≤ 2560) (h5 : 5 * i + 5 ≤ L) : ∃ M2, f_L_law_495 sc xs L M i (some n) (some (n + 31)) (nI (5 * i)) = some (.inl (i + 1, M2, nI (5 * i) + 5)) ∧ ls_R n (i + 1) M2 := by
  obtain ⟨σ, hM, hc, hG⟩ := hR
  obtain ⟨r, M1, M2, e1, e2, hq, hk⟩ := ca_undo hM hc hG (Nat.le_of_lt hi) 
  exact ⟨M2, bx (pe_rc (lc_k0 hc)) (gdx hi (b2x e1 (bx (pe_rc hk) (b2x e2 (ift rfl rfl))))), hq⟩
theorem lwx_b12 (hR : ls_R n i M) (hi : i < 512) (hL : L ≤ 2560) (h5 : 5 * i + 5 ≤ L) : ∃ M2, f_L_law_508 sc xs L M i (some n) (some (n + 31)) (nI (5 * i)) = some (.inl (i + 1, M2, nI (5 * i) + 5)) ∧ ls_R n (i + 1) M2 := by
  obtain ⟨σ, hM, hc, hG⟩ := hR
  have s1 : mm_sc xs L (nI (5 * i) + 1) = some (xs (5 * i + 1)) := lwx_sc (c := 1) (by omega) hL
  have s2 : mm_sc xs L (nI (5 * i) + 2) = some (xs (5 * i + 2)) := lwx_sc (c := 2) (by omega) hL
  have s3 : mm_sc xs L (nI (5 * i) + 3) = some (xs (5 * i + 3)) := lwx_sc (c := 3) (by omega) hL
  have s4 : mm_sc xs L (nI (5 * i) + 4) = some (xs (5 * i + 4)) := lwx_sc (c := 4) (by omega) hL
  obtain ⟨r, M2, e1, e2, hq, hk⟩ := ca_memory hM hc hG  (xs (5 * i + 1)) (xs (5 * i + 2)) (xs (5 * i + 3)) (xs (5 * i + 4))
  exact ⟨M2, bx s1 (bx s2 (bx s3 (bx s4 (bx (pe_rc (lc_k0 hc)) (gdx hi (bx e1 (bx s1 (bx s2 (bx s3 (bx s4 (bx (ls_rc hM) (b2x e2 (ift rfl rfl))))))))))))), hq⟩
theorem lwx_b13 (hR : ls_R n i M) (hi : i < 512) (hL : L ≤ 2560) (h5 : 5 * i + 5 ≤ L) : ∃ M2, f_L_law_561 sc xs L M i (some n) (some (n + 31)) (nI (5 * i)) = some (.inl (i + 1, M2, nI (5 * i) + 5)) ∧ ls_R n (i + 1) M2 := by
  obtain ⟨σ, hM, hc, hG⟩ := hR
  have s1 : mm_sc xs L (nI (5 * i) + 1) = some (xs (5 * i + 1)) := lwx_sc (c := 1) (by omega) hL
  have s2 : mm_sc xs L (nI (5 * i) + 2) = some (xs (5 * i + 2)) := lwx_sc (c := 2) (by omega) hL
  have s3 : mm_sc xs L (nI (5 * i) + 3) = some (xs (5 * i + 3)) := lwx_sc (c := 3) (by omega) hL
  obtain ⟨r, M2, e1, e2, hq, hk⟩ := ca_when hM hc hG  (xs (5 * i + 1)) (xs (5 * i + 2)) (xs (5 * i + 3))
  exact ⟨M2, bx s1 (bx s2 (bx s3 (bx (pe_rc (lc_k0 hc)) (gdx hi (bx e1 (bx s1 (bx s2 (bx s3 (bx (ls_rc hM) (b2x e2 (ift rfl rfl))))))))))), hq⟩
theorem lwx_b14 (hR : ls_R n i M) (hi : i < 512) (hL : L ≤ 2560) (h5 : 5 * i + 5 ≤ L) : ∃ M2, f_L_law_604 sc xs L M i (some n) (some (n + 31)) (nI (5 * i)) = some (.inl (i + 1, M2, nI (5 * i) + 5)) ∧ ls_R n (i + 1) M2 := by
  obtain ⟨σ, hM, hc, hG⟩ := hR
  have s1 : mm_sc xs L (nI (5 * i) + 1) = some (xs (5 * i + 1)) := lwx_sc (c := 1) (by omega) hL
  have s2 : mm_sc xs L (nI (5 * i) + 2) = some (xs (5 * i + 2)) := lwx_sc (c := 2) (by omega) hL
  obtain ⟨r, M2, e1, e2, hq, hk⟩ := ca_pupil hM hc hG  (xs (5 * i + 1)) (xs (5 * i + 2))
  exact ⟨M2, bx s1 (bx s2 (bx (pe_rc (lc_k0 hc)) (gdx hi (bx e1 (bx s1 (bx s2 (bx (ls_rc hM) (b2x e2 (ift rfl rfl))))))))), hq⟩
theorem lwx_b15 (hR : ls_R n i M) (hi : i < 512) (hL : L ≤ 2560) (h5 : 5 * i + 5 ≤ L) : ∃ M2, f_L_law_637 sc xs L M i (some n) (some (n + 31)) (nI (5 * i)) = some (.inl (i + 1, M2, nI (5 * i) + 5)) ∧ ls_R n (i + 1) M2 := by
  obtain ⟨σ, hM, hc, hG⟩ := hR
  have s1 : mm_sc xs L (nI (5 * i) + 1) = some (xs (5 * i + 1)) := lwx_sc (c := 1) (by omega) hL
  have s2 : mm_sc xs L (nI (5 * i) + 2) = some (xs (5 * i + 2)) := lwx_sc (c := 2) (by omega) hL
  obtain ⟨r, M2, e1, e2, hq, hk⟩ := ca_known hM hc hG  (xs (5 * i + 1)) (xs (5 * i + 2))
  exact ⟨M2, bx s1 (bx s2 (bx (pe_rc (lc_k0 hc)) (gdx hi (bx e1 (bx s1 (bx s2 (bx (ls_rc hM) (b2x e2 (ift rfl rfl))))))))), hq⟩
theorem lwx_b16 (hR : ls_R n i M) (hi : i < 512) (hL : L ≤ 2560) (h5 : 5 * i + 5 ≤ L) : ∃ M2, f_L_law_670 sc xs L M i (some n) (some (n + 31)) (nI (5 * i)) = some (.inl (i + 1, M2, nI (5 * i) + 5)) ∧ ls_R n (i + 1) M2 := by
  obtain ⟨σ, hM, hc, hG⟩ := hR
  have s1 : mm_sc xs L (nI (5 * i) + 1) = some (xs (5 * i + 1)) := lwx_sc (c := 1) (by omega) hL
  have s2 : mm_sc xs L (nI (5 * i) + 2) = some (xs (5 * i + 2)) := lwx_sc (c := 2) (by omega) hL
  obtain ⟨r, M2, e1, e2, hq, hk⟩ := ca_mean hM hc hG  (xs (5 * i + 1)) (xs (5 * i + 2))
  exact ⟨M2, bx s1 (bx s2 (bx (pe_rc (lc_k0 hc)) (gdx hi (bx e1 (bx s1 (bx s2 (bx (ls_rc hM) (b2x e2 (ift rfl rfl))))))))), hq⟩
theorem lwx_b17 (hR : ls_R n i M) (hi : i < 512) (hL : L ≤ 2560) (h5 : 5 * i + 5 ≤ L) : ∃ M2, f_L_law_703 sc xs L M i (some n) (some (n + 31)) (nI (5 * i)) = some (.inl (i + 1, M2, nI (5 * i) + 5)) ∧ ls_R n (i + 1) M2 := by
  obtain ⟨σ, hM, hc, hG⟩ := hR
  have s1 : mm_sc xs L (nI (5 * i) + 1) = some (xs (5 * i + 1)) := lwx_sc (c := 1) (by omega) hL
  have s2 : mm_sc xs L (nI (5 * i) + 2) = some (xs (5 * i + 2)) := lwx_sc (c := 2) (by omega) hL
  obtain ⟨r, M1, M2, e1, e2, hq, hk⟩ := ca_plan hM hc hG (Nat.le_of_lt hi) (xs (5 * i + 1)) (xs (5 * i + 2))
  exact ⟨M2, bx s1 (bx s2 (bx (pe_rc (lc_k0 hc)) (gdx hi (b2x e1 (bx s1 (bx s2 (bx (pe_rc hk) (b2x e2 (ift rfl rfl))))))))), hq⟩
theorem lwx_b18 (hR : ls_R n i M) (hi : i < 512) (hL : L ≤ 2560) (h5 : 5 * i + 5 ≤ L) : ∃ M2, f_L_law_736 sc xs L M i (some n) (some (n + 31)) (nI (5 * i)) = some (.inl (i + 1, M2, nI (5 * i) + 5)) ∧ ls_R n (i + 1) M2 := by
  obtain ⟨σ, hM, hc, hG⟩ := hR
  have s1 : mm_sc xs L (nI (5 * i) + 1) = some (xs (5 * i + 1)) := lwx_sc (c := 1) (by omega) hL
  have s2 : mm_sc xs L (nI (5 * i) + 2) = some (xs (5 * i + 2)) := lwx_sc (c := 2) (by omega) hL
  obtain ⟨r, M1, M2, e1, e2, hq, hk⟩ := ca_even hM hc hG  (xs (5 * i + 1)) (xs (5 * i + 2))
  exact ⟨M2, bx s1 (bx s2 (bx (pe_rc (lc_k0 hc)) (gdx hi (b2x e1 (bx s1 (bx s2 (bx (pe_rc hk) (b2x e2 (ift rfl rfl))))))))), hq⟩
theorem lwx_b19 (hR : ls_R n i M) (hi : i < 512) (hL : L ≤ 2560) (h5 : 5 * i + 5 ≤ L) : ∃ M2, f_L_law_769 sc xs L M i (some n) (some (n + 31)) (nI (5 * i)) = some (.inl (i + 1, M2, nI (5 * i) + 5)) ∧ ls_R n (i + 1) M2 := by
  obtain ⟨σ, hM, hc, hG⟩ := hR
  have s1 : mm_sc xs L (nI (5 * i) + 1) = some (xs (5 * i + 1)) := lwx_sc (c := 1) (by omega) hL
  obtain ⟨r, e1, e2⟩ := ca_load hM hc   (xs (5 * i + 1))
  exact ⟨M, bx s1 (bx (pe_rc (lc_k0 hc)) (gdx hi (bx e1 (bx s1 (bx (ls_rc hM) (bx e2 (ift rfl rfl))))))), (ls_no hM hc hG).1⟩
theorem lwx_b20 (hR : ls_R n i M) (hi : i < 512) (hL : L ≤ 2560) (h5 : 5 * i + 5 ≤ L) : ∃ M2, f_L_law_792 sc xs L M i (some n) (some (n + 31)) (nI (5 * i)) = some (.inl (i + 1, M2, nI (5 * i) + 5)) ∧ ls_R n (i + 1) M2 := by
  obtain ⟨σ, hM, hc, hG⟩ := hR
  have s1 : mm_sc xs L (nI (5 * i) + 1) = some (xs (5 * i + 1)) := lwx_sc (c := 1) (by omega) hL
  have s2 : mm_sc xs L (nI (5 * i) + 2) = some (xs (5 * i + 2)) := lwx_sc (c := 2) (by omega) hL
  obtain ⟨r, e1, e2⟩ := ca_put hM hc hG  (xs (5 * i + 1)) (xs (5 * i + 2))
  exact ⟨M, bx s1 (bx s2 (bx (pe_rc (lc_k0 hc)) (gdx hi (bx e1 (bx s1 (bx s2 (bx (ls_rc hM) (bx e2 (ift rfl rfl))))))))), (ls_no hM hc hG).1⟩
theorem lwx_b21 (hR : ls_R n i M) (hi : i < 512) (hL : L ≤ 2560) (h5 : 5 * i + 5 ≤ L) : ∃ M2, f_L_law_825 sc xs L M i (some n) (some (n + 31)) (nI (5 * i)) = some (.inl (i + 1, M2, nI (5 * i) + 5)) ∧ ls_R n (i + 1) M2 := by
  obtain ⟨σ, hM, hc, hG⟩ := hR
  have s1 : mm_sc xs L (nI (5 * i) + 1) = some (xs (5 * i + 1)) := lwx_sc (c := 1) (by omega) hL
  have s2 : mm_sc xs L (nI (5 * i) + 2) = some (xs (5 * i + 2)) := lwx_sc (c := 2) (by omega) hL
  have s3 : mm_sc xs L (nI (5 * i) + 3) = some (xs (5 * i + 3)) := lwx_sc (c := 3) (by omega) hL
  obtain ⟨r, M1, M2, e1, e2, hq, hk⟩ := ca_test hM hc hG  (xs (5 * i + 1)) (xs (5 * i + 2)) (xs (5 * i + 3))
  exact ⟨M2, bx s1 (bx s2 (bx s3 (bx (pe_rc (lc_k0 hc)) (gdx hi (b2x e1 (bx s1 (bx s2 (bx s3 (bx (pe_rc hk) (b2x e2 (ift rfl rfl))))))))))), hq⟩
theorem lwx_b22 (hR : ls_R n i M) (hi : i < 512) (hL : L ≤ 2560) (h5 : 5 * i + 5 ≤ L) : ∃ M2, f_L_law_868 sc xs L M i (some n) (some (n + 31)) (nI (5 * i)) = some (.inl (i + 1, M2, nI (5 * i) + 5)) ∧ ls_R n (i + 1) M2 := by
  obtain ⟨σ, hM, hc, hG⟩ := hR
  have s1 : mm_sc xs L (nI (5 * i) + 1) = some (xs (5 * i + 1)) := lwx_sc (c := 1) (by omega) hL
  have s2 : mm_sc xs L (nI (5 * i) + 2) = some (xs (5 * i + 2)) := lwx_sc (c := 2) (by omega) hL
  obtain ⟨r, M1, M2, e1, e2, hq, hk⟩ := ca_told hM hc hG  (xs (5 * i + 1)) (xs (5 * i + 2))
  exact ⟨M2, bx s1 (bx s2 (bx (pe_rc (lc_k0 hc)) (gdx hi (b2x e1 (bx s1 (bx s2 (bx (pe_rc hk) (b2x e2 (ift rfl rfl))))))))), hq⟩
theorem lwx_b23 (hR : ls_R n i M) (hi : i < 512) (hL : L ≤ 2560) (h5 : 5 * i + 5 ≤ L) : ∃ M2, f_L_law_901 sc xs L M i (some n) (some (n + 31)) (nI (5 * i)) = some (.inl (i + 1, M2, nI (5 * i) + 5)) ∧ ls_R n (i + 1) M2 := by
  obtain ⟨σ, hM, hc, hG⟩ := hR
  have s1 : mm_sc xs L (nI (5 * i) + 1) = some (xs (5 * i + 1)) := lwx_sc (c := 1) (by omega) hL
  obtain ⟨r, e1, e2⟩ := ca_weight hM hc hG  (xs (5 * i + 1))
  exact ⟨M, bx s1 (bx (pe_rc (lc_k0 hc)) (gdx hi (bx e1 (bx s1 (bx (ls_rc hM) (bx e2 (ift ((lg_eq _ _).mpr rfl) rfl))))))), (ls_no hM hc hG).1⟩
theorem lwx_b24 (hR : ls_R n i M) (hi : i < 512) (hL : L ≤ 2560) (h5 : 5 * i + 5 ≤ L) : ∃ M2, f_L_law_925 sc xs L M i (some n) (some (n + 31)) (nI (5 * i)) = some (.inl (i + 1, M2, nI (5 * i) + 5)) ∧ ls_R n (i + 1) M2 := by
  obtain ⟨σ, hM, hc, hG⟩ := hR
  obtain ⟨r, e1, e2⟩ := ca_level hM hc hG  
  exact ⟨M, bx (pe_rc (lc_k0 hc)) (gdx hi (bx e1 (bx (ls_rc hM) (bx e2 (ift rfl rfl))))), (ls_no hM hc hG).1⟩
theorem lwx_b25 (hR : ls_R n i M) (hi : i < 512) (hL : L ≤ 2560) (h5 : 5 * i + 5 ≤ L) : ∃ M2, f_L_law_938 sc xs L M i (some n) (some (n + 31)) (nI (5 * i)) = some (.inl (i + 1, M2, nI (5 * i) + 5)) ∧ ls_R n (i + 1) M2 := by
  obtain ⟨σ, hM, hc, hG⟩ := hR
  obtain ⟨r, e1, e2⟩ := ca_log hM hc   
  exact ⟨M, bx (pe_rc (lc_k0 hc)) (gdx hi (bx e1 (bx (ls_rc hM) (bx e2 (ift rfl rfl))))), (ls_no hM hc hG).1⟩
theorem lwx_b26 (hR : ls_R n i M) (hi : i < 512) (hL : L ≤ 2560) (h5 : 5 * i + 5 ≤ L) : ∃ M2, f_L_law_951 sc xs L M i (some n) (some (n + 31)) (nI (5 * i)) = some (.inl (i + 1, M2, nI (5 * i) + 5)) ∧ ls_R n (i + 1) M2 := by
  obtain ⟨σ, hM, hc, hG⟩ := hR
  have s1 : mm_sc xs L (nI (5 * i) + 1) = some (xs (5 * i + 1)) := lwx_sc (c := 1) (by omega) hL
  have s2 : mm_sc xs L (nI (5 * i) + 2) = some (xs (5 * i + 2)) := lwx_sc (c := 2) (by omega) hL
  obtain ⟨r, e1, e2⟩ := ca_logged hM hc hG (Nat.le_of_lt hi) (xs (5 * i + 1)) (xs (5 * i + 2))
  exact ⟨M, bx s1 (bx s2 (bx (pe_rc (lc_k0 hc)) (gdx hi (bx e1 (bx s1 (bx s2 (bx (ls_rc hM) (bx e2 (ift rfl rfl))))))))), (ls_no hM hc hG).1⟩
theorem lwx_b27 (hR : ls_R n i M) (hi : i < 512) (hL : L ≤ 2560) (h5 : 5 * i + 5 ≤ L) : ∃ M2, f_L_law_984 sc xs L M i (some n) (some (n + 31)) (nI (5 * i)) = some (.inl (i + 1, M2, nI (5 * i) + 5)) ∧ ls_R n (i + 1) M2 := by
  obtain ⟨σ, hM, hc, hG⟩ := hR
  have s1 : mm_sc xs L (nI (5 * i) + 1) = some (xs (5 * i + 1)) := lwx_sc (c := 1) (by omega) hL
  have s2 : mm_sc xs L (nI (5 * i) + 2) = some (xs (5 * i + 2)) := lwx_sc (c := 2) (by omega) hL
  obtain ⟨r, M1, M2, e1, e2, hq, hk⟩ := ca_surprise hM hc hG (Nat.le_of_lt hi) (xs (5 * i + 1)) (xs (5 * i + 2))
  exact ⟨M2, bx s1 (bx s2 (bx (pe_rc (lc_k0 hc)) (gdx hi (b2x e1 (bx s1 (bx s2 (bx (pe_rc hk) (b2x e2 (ift ((lg_eq _ _).mpr rfl) rfl))))))))), hq⟩
theorem lwx_b28 (hR : ls_R n i M) (hi : i < 512) (hL : L ≤ 2560) (h5 : 5 * i + 5 ≤ L) : ∃ M2, f_L_law_1018 sc xs L M i (some n) (some (n + 31)) (nI (5 * i)) = some (.inl (i + 1, M2, nI (5 * i) + 5)) ∧ ls_R n (i + 1) M2 := by
  obtain ⟨σ, hM, hc, hG⟩ := hR
  have s1 : mm_sc xs L (nI (5 * i) + 1) = some (xs (5 * i + 1)) := lwx_sc (c := 1) (by omega) hL
  obtain ⟨r, M1, M2, e1, e2, hq, hk⟩ := ca_better hM hc hG (Nat.le_of_lt hi) (xs (5 * i + 1))
  exact ⟨M2, bx s1 (bx (pe_rc (lc_k0 hc)) (gdx hi (b2x e1 (bx s1 (bx (pe_rc hk) (b2x e2 (ift rfl rfl))))))), hq⟩
theorem lwx_b29 (hR : ls_R n i M) (hi : i < 512) (hL : L ≤ 2560) (h5 : 5 * i + 5 ≤ L) : ∃ M2, f_L_law_1041 sc xs L M i (some n) (some (n + 31)) (nI (5 * i)) = some (.inl (i + 1, M2, nI (5 * i) + 5)) ∧ ls_R n (i + 1) M2 := by
  obtain ⟨σ, hM, hc, hG⟩ := hR
  have s1 : mm_sc xs L (nI (5 * i) + 1) = some (xs (5 * i + 1)) := lwx_sc (c := 1) (by omega) hL
  have s2 : mm_sc xs L (nI (5 * i) + 2) = some (xs (5 * i + 2)) := lwx_sc (c := 2) (by omega) hL
  have s3 : mm_sc xs L (nI (5 * i) + 3) = some (xs (5 * i + 3)) := lwx_sc (c := 3) (by omega) hL
  have s4 : mm_sc xs L (nI (5 * i) + 4) = some (xs (5 * i + 4)) := lwx_sc (c := 4) (by omega) hL
  obtain ⟨r, M1, M2, e1, e2, hq, hk⟩ := ca_other hM hc hG (Nat.le_of_lt hi) (xs (5 * i + 1)) (xs (5 * i + 2)) (xs (5 * i + 3)) (xs (5 * i + 4))
  exact ⟨M2, bx s1 (bx s2 (bx s3 (bx s4 (bx (pe_rc (lc_k0 hc)) (gdx hi (b2x e1 (bx s1 (bx s2 (bx s3 (bx s4 (bx (pe_rc hk) (b2x e2 (ift rfl rfl))))))))))))), hq⟩
theorem lwx_b30 (hR : ls_R n i M) (hi : i < 512) (hL : L ≤ 2560) (h5 : 5 * i + 5 ≤ L) : ∃ M2, f_L_law_1094 sc xs L M i (some n) (some (n + 31)) (nI (5 * i)) = some (.inl (i + 1, M2, nI (5 * i) + 5)) ∧ ls_R n (i + 1) M2 := by
  obtain ⟨σ, hM, hc, hG⟩ := hR
  have s1 : mm_sc xs L (nI (5 * i) + 1) = some (xs (5 * i + 1)) := lwx_sc (c := 1) (by omega) hL
  obtain ⟨r, M1, M2, e1, e2, hq, hk⟩ := ca_check hM hc hG (Nat.le_of_lt hi) (xs (5 * i + 1))
  exact ⟨M2, bx s1 (bx (pe_rc (lc_k0 hc)) (gdx hi (b2x e1 (bx s1 (bx (pe_rc hk) (b2x e2 (ift rfl rfl))))))), hq⟩
theorem lwx_bz (hR : ls_R n i M) : ∃ M2, f_L_law_1117 sc xs L M i (some n) (some (n + 31)) (nI (5 * i)) = some (.inl (i + 1, M2, nI (5 * i) + 5)) ∧ ls_R n (i + 1) M2 := by
  obtain ⟨σ, hM, hc, hG⟩ := hR
  exact ⟨M, rfl, (ls_no hM hc hG).1⟩
theorem lwx_step (hR : ls_R n i M) (hi : i < 512) (hL : L ≤ 2560) (hq5 : 5 * i + 5 ≤ L) : ∃ M2, f_L_law_26 sc xs L M i (some n) (some (n + 31)) (nI (5 * i)) = some (.inl (i + 1, M2, nI (5 * i) + 5)) ∧ ls_R n (i + 1) M2 := by
  have s0 : mm_sc xs L (nI (5 * i)) = some (xs (5 * i)) := by
    have e : mm_sc xs L (nI (5 * i) + nI 0) = some (xs (5 * i + 0)) := lwx_sc (c := 0) (by omega) hL
    rw [nI_add] at e
    exact e
  by_cases h0 : (xs (5 * i) &&& 31) = 0
  · obtain ⟨M2, e, r⟩ := lwx_b0 (sc := sc) (xs := xs) hR hi hL hq5
    exact ⟨M2, bx s0 (ift h0 e), r⟩
  by_cases h1 : (xs (5 * i) &&& 31) = 1
  · obtain ⟨M2, e, r⟩ := lwx_b1 (sc := sc) (xs := xs) hR hi hL hq5
    exact ⟨M2, bx s0 (iff_ h0 (ift h1 e)), r⟩
  by_cases h2 : (xs (5 * i) &&& 31) = 2
  · obtain ⟨M2, e, r⟩ := lwx_b2 (sc := sc) (xs := xs) hR hi hL hq5
    exact ⟨M2, bx s0 (iff_ h0 (iff_ h1 (ift h2 e))), r⟩
  by_cases h3 : (xs (5 * i) &&& 31) = 3
  · obtain ⟨M2, e, r⟩ := lwx_b3 (sc := sc) (xs := xs) hR hi hL hq5
    exact ⟨M2, bx s0 (iff_ h0 (iff_ h1 (iff_ h2 (ift h3 e)))), r⟩
  by_cases h4 : (xs (5 * i) &&& 31) = 4
  · obtain ⟨M2, e, r⟩ := lwx_b4 (sc := sc) (xs := xs) hR hi hL hq5
    exact ⟨M2, bx s0 (iff_ h0 (iff_ h1 (iff_ h2 (iff_ h3 (ift h4 e))))), r⟩
  by_cases h5 : (xs (5 * i) &&& 31) = 5
  · obtain ⟨M2, e, r⟩ := lwx_b5 (sc := sc) (xs := xs) hR hi hL hq5
    exact ⟨M2, bx s0 (iff_ h0 (iff_ h1 (iff_ h2 (iff_ h3 (iff_ h4 (ift h5 e)))))), r⟩
  by_cases h6 : (xs (5 * i) &&& 31) = 6
  · obtain ⟨M2, e, r⟩ := lwx_b6 (sc := sc) (xs := xs) hR hi hL hq5
    exact ⟨M2, bx s0 (iff_ h0 (iff_ h1 (iff_ h2 (iff_ h3 (iff_ h4 (iff_ h5 (ift h6 e))))))), r⟩
  by_cases h7 : (xs (5 * i) &&& 31) = 7
  · obtain ⟨M2, e, r⟩ := lwx_b7 (sc := sc) (xs := xs) hR hi hL hq5
    exact ⟨M2, bx s0 (iff_ h0 (iff_ h1 (iff_ h2 (iff_ h3 (iff_ h4 (iff_ h5 (iff_ h6 (ift h7 e)))))))), r⟩
  by_cases h8 : (xs (5 * i) &&& 31) = 8
  · obtain ⟨M2, e, r⟩ := lwx_b8 (sc := sc) (xs := xs) hR hi hL hq5
    exact ⟨M2, bx s0 (iff_ h0 (iff_ h1 (iff_ h2 (iff_ h3 (iff_ h4 (iff_ h5 (iff_ h6 (iff_ h7 (ift h8 e))))))))), r⟩
  by_cases h9 : (xs (5 * i) &&& 31) = 9
  · obtain ⟨M2, e, r⟩ := lwx_b9 (sc := sc) (xs := xs) hR hi hL hq5
    exact ⟨M2, bx s0 (iff_ h0 (iff_ h1 (iff_ h2 (iff_ h3 (iff_ h4 (iff_ h5 (iff_ h6 (iff_ h7 (iff_ h8 (ift h9 e)))))))))), r⟩
  by_cases h10 : (xs (5 * i) &&& 31) = 10
  · obtain ⟨M2, e, r⟩ := lwx_b10 (sc := sc) (xs := xs) hR hi hL hq5
    exact ⟨M2, bx s0 (iff_ h0 (iff_ h1 (iff_ h2 (iff_ h3 (iff_ h4 (iff_ h5 (iff_ h6 (iff_ h7 (iff_ h8 (iff_ h9 (ift h10 e))))))))))), r⟩
  by_cases h11 : (xs (5 * i) &&& 31) = 11
  · obtain ⟨M2, e, r⟩ := lwx_b11 (sc := sc) (xs := xs) hR hi hL hq5
    exact ⟨M2, bx s0 (iff_ h0 (iff_ h1 (iff_ h2 (iff_ h3 (iff_ h4 (iff_ h5 (iff_ h6 (iff_ h7 (iff_ h8 (iff_ h9 (iff_ h10 (ift h11 e)))))))))))), r⟩
  by_cases h12 : (xs (5 * i) &&& 31) = 12
  · obtain ⟨M2, e, r⟩ := lwx_b12 (sc := sc) (xs := xs) hR hi hL hq5
    exact ⟨M2, bx s0 (iff_ h0 (iff_ h1 (iff_ h2 (iff_ h3 (iff_ h4 (iff_ h5 (iff_ h6 (iff_ h7 (iff_ h8 (iff_ h9 (iff_ h10 (iff_ h11 (ift h12 e))))))))))))), r⟩
  by_cases h13 : (xs (5 * i) &&& 31) = 13
  · obtain ⟨M2, e, r⟩ := lwx_b13 (sc := sc) (xs := xs) hR hi hL hq5
    exact ⟨M2, bx s0 (iff_ h0 (iff_ h1 (iff_ h2 (iff_ h3 (iff_ h4 (iff_ h5 (iff_ h6 (iff_ h7 (iff_ h8 (iff_ h9 (iff_ h10 (iff_ h11 (iff_ h12 (ift h13 e)))))))))))))), r⟩
  by_cases h14 : (xs (5 * i) &&& 31) = 14
  · obtain ⟨M2, e, r⟩ := lwx_b14 (sc := sc) (xs := xs) hR hi hL hq5
    exact ⟨M2, bx s0 (iff_ h0 (iff_ h1 (iff_ h2 (iff_ h3 (iff_ h4 (iff_ h5 (iff_ h6 (iff_ h7 (iff_ h8 (iff_ h9 (iff_ h10 (iff_ h11 (iff_ h12 (iff_ h13 (ift h14 e))))))))))))))), r⟩
  by_cases h15 : (xs (5 * i) &&& 31) = 15
  · obtain ⟨M2, e, r⟩ := lwx_b15 (sc := sc) (xs := xs) hR hi hL hq5
    exact ⟨M2, bx s0 (iff_ h0 (iff_ h1 (iff_ h2 (iff_ h3 (iff_ h4 (iff_ h5 (iff_ h6 (iff_ h7 (iff_ h8 (iff_ h9 (iff_ h10 (iff_ h11 (iff_ h12 (iff_ h13 (iff_ h14 (ift h15 e)))))))))))))))), r⟩
  by_cases h16 : (xs (5 * i) &&& 31) = 16
  · obtain ⟨M2, e, r⟩ := lwx_b16 (sc := sc) (xs := xs) hR hi hL hq5
    exact ⟨M2, bx s0 (iff_ h0 (iff_ h1 (iff_ h2 (iff_ h3 (iff_ h4 (iff_ h5 (iff_ h6 (iff_ h7 (iff_ h8 (iff_ h9 (iff_ h10 (iff_ h11 (iff_ h12 (iff_ h13 (iff_ h14 (iff_ h15 (ift h16 e))))))))))))))))), r⟩
  by_cases h17 : (xs (5 * i) &&& 31) = 17
  · obtain ⟨M2, e, r⟩ := lwx_b17 (sc := sc) (xs := xs) hR hi hL hq5
    exact ⟨M2, bx s0 (iff_ h0 (iff_ h1 (iff_ h2 (iff_ h3 (iff_ h4 (iff_ h5 (iff_ h6 (iff_ h7 (iff_ h8 (iff_ h9 (iff_ h10 (iff_ h11 (iff_ h12 (iff_ h13 (iff_ h14 (iff_ h15 (iff_ h16 (ift h17 e)))))))))))))))))), r⟩
  by_cases h18 : (xs (5 * i) &&& 31) = 18
  · obtain ⟨M2, e, r⟩ := lwx_b18 (sc := sc) (xs := xs) hR hi hL hq5
    exact ⟨M2, bx s0 (iff_ h0 (iff_ h1 (iff_ h2 (iff_ h3 (iff_ h4 (iff_ h5 (iff_ h6 (iff_ h7 (iff_ h8 (iff_ h9 (iff_ h10 (iff_ h11 (iff_ h12 (iff_ h13 (iff_ h14 (iff_ h15 (iff_ h16 (iff_ h17 (ift h18 e))))))))))))))))))), r⟩
  by_cases h19 : (xs (5 * i) &&& 31) = 19
  · obtain ⟨M2, e, r⟩ := lwx_b19 (sc := sc) (xs := xs) hR hi hL hq5
    exact ⟨M2, bx s0 (iff_ h0 (iff_ h1 (iff_ h2 (iff_ h3 (iff_ h4 (iff_ h5 (iff_ h6 (iff_ h7 (iff_ h8 (iff_ h9 (iff_ h10 (iff_ h11 (iff_ h12 (iff_ h13 (iff_ h14 (iff_ h15 (iff_ h16 (iff_ h17 (iff_ h18 (ift h19 e)))))))))))))))))))), r⟩
  by_cases h20 : (xs (5 * i) &&& 31) = 20
  · obtain ⟨M2, e, r⟩ := lwx_b20 (sc := sc) (xs := xs) hR hi hL hq5
    exact ⟨M2, bx s0 (iff_ h0 (iff_ h1 (iff_ h2 (iff_ h3 (iff_ h4 (iff_ h5 (iff_ h6 (iff_ h7 (iff_ h8 (iff_ h9 (iff_ h10 (iff_ h11 (iff_ h12 (iff_ h13 (iff_ h14 (iff_ h15 (iff_ h16 (iff_ h17 (iff_ h18 (iff_ h19 (ift h20 e))))))))))))))))))))), r⟩
  by_cases h21 : (xs (5 * i) &&& 31) = 21
  · obtain ⟨M2, e, r⟩ := lwx_b21 (sc := sc) (xs := xs) hR hi hL hq5
    exact ⟨M2, bx s0 (iff_ h0 (iff_ h1 (iff_ h2 (iff_ h3 (iff_ h4 (iff_ h5 (iff_ h6 (iff_ h7 (iff_ h8 (iff_ h9 (iff_ h10 (iff_ h11 (iff_ h12 (iff_ h13 (iff_ h14 (iff_ h15 (iff_ h16 (iff_ h17 (iff_ h18 (iff_ h19 (iff_ h20 (ift h21 e)))))))))))))))))))))), r⟩
  by_cases h22 : (xs (5 * i) &&& 31) = 22
  · obtain ⟨M2, e, r⟩ := lwx_b22 (sc := sc) (xs := xs) hR hi hL hq5
    exact ⟨M2, bx s0 (iff_ h0 (iff_ h1 (iff_ h2 (iff_ h3 (iff_ h4 (iff_ h5 (iff_ h6 (iff_ h7 (iff_ h8 (iff_ h9 (iff_ h10 (iff_ h11 (iff_ h12 (iff_ h13 (iff_ h14 (iff_ h15 (iff_ h16 (iff_ h17 (iff_ h18 (iff_ h19 (iff_ h20 (iff_ h21 (ift h22 e))))))))))))))))))))))), r⟩
  by_cases h23 : (xs (5 * i) &&& 31) = 23
  · obtain ⟨M2, e, r⟩ := lwx_b23 (sc := sc) (xs := xs) hR hi hL hq5
    exact ⟨M2, bx s0 (iff_ h0 (iff_ h1 (iff_ h2 (iff_ h3 (iff_ h4 (iff_ h5 (iff_ h6 (iff_ h7 (iff_ h8 (iff_ h9 (iff_ h10 (iff_ h11 (iff_ h12 (iff_ h13 (iff_ h14 (iff_ h15 (iff_ h16 (iff_ h17 (iff_ h18 (iff_ h19 (iff_ h20 (iff_ h21 (iff_ h22 (ift h23 e)))))))))))))))))))))))), r⟩
  by_cases h24 : (xs (5 * i) &&& 31) = 24
  · obtain ⟨M2, e, r⟩ := lwx_b24 (sc := sc) (xs := xs) hR hi hL hq5
    exact ⟨M2, bx s0 (iff_ h0 (iff_ h1 (iff_ h2 (iff_ h3 (iff_ h4 (iff_ h5 (iff_ h6 (iff_ h7 (iff_ h8 (iff_ h9 (iff_ h10 (iff_ h11 (iff_ h12 (iff_ h13 (iff_ h14 (iff_ h15 (iff_ h16 (iff_ h17 (iff_ h18 (iff_ h19 (iff_ h20 (iff_ h21 (iff_ h22 (iff_ h23 (ift h24 e))))))))))))))))))))))))), r⟩
  by_cases h25 : (xs (5 * i) &&& 31) = 25
  · obtain ⟨M2, e, r⟩ := lwx_b25 (sc := sc) (xs := xs) hR hi hL hq5
    exact ⟨M2, bx s0 (iff_ h0 (iff_ h1 (iff_ h2 (iff_ h3 (iff_ h4 (iff_ h5 (iff_ h6 (iff_ h7 (iff_ h8 (iff_ h9 (iff_ h10 (iff_ h11 (iff_ h12 (iff_ h13 (iff_ h14 (iff_ h15 (iff_ h16 (iff_ h17 (iff_ h18 (iff_ h19 (iff_ h20 (iff_ h21 (iff_ h22 (iff_ h23 (iff_ h24 (ift h25 e)))))))))))))))))))))))))), r⟩
  by_cases h26 : (xs (5 * i) &&& 31) = 26
  · obtain ⟨M2, e, r⟩ := lwx_b26 (sc := sc) (xs := xs) hR hi hL hq5
    exact ⟨M2, bx s0 (iff_ h0 (iff_ h1 (iff_ h2 (iff_ h3 (iff_ h4 (iff_ h5 (iff_ h6 (iff_ h7 (iff_ h8 (iff_ h9 (iff_ h10 (iff_ h11 (iff_ h12 (iff_ h13 (iff_ h14 (iff_ h15 (iff_ h16 (iff_ h17 (iff_ h18 (iff_ h19 (iff_ h20 (iff_ h21 (iff_ h22 (iff_ h23 (iff_ h24 (iff_ h25 (ift h26 e))))))))))))))))))))))))))), r⟩
  by_cases h27 : (xs (5 * i) &&& 31) = 27
  · obtain ⟨M2, e, r⟩ := lwx_b27 (sc := sc) (xs := xs) hR hi hL hq5
    exact ⟨M2, bx s0 (iff_ h0 (iff_ h1 (iff_ h2 (iff_ h3 (iff_ h4 (iff_ h5 (iff_ h6 (iff_ h7 (iff_ h8 (iff_ h9 (iff_ h10 (iff_ h11 (iff_ h12 (iff_ h13 (iff_ h14 (iff_ h15 (iff_ h16 (iff_ h17 (iff_ h18 (iff_ h19 (iff_ h20 (iff_ h21 (iff_ h22 (iff_ h23 (iff_ h24 (iff_ h25 (iff_ h26 (ift h27 e)))))))))))))))))))))))))))), r⟩
  by_cases h28 : (xs (5 * i) &&& 31) = 28
  · obtain ⟨M2, e, r⟩ := lwx_b28 (sc := sc) (xs := xs) hR hi hL hq5
    exact ⟨M2, bx s0 (iff_ h0 (iff_ h1 (iff_ h2 (iff_ h3 (iff_ h4 (iff_ h5 (iff_ h6 (iff_ h7 (iff_ h8 (iff_ h9 (iff_ h10 (iff_ h11 (iff_ h12 (iff_ h13 (iff_ h14 (iff_ h15 (iff_ h16 (iff_ h17 (iff_ h18 (iff_ h19 (iff_ h20 (iff_ h21 (iff_ h22 (iff_ h23 (iff_ h24 (iff_ h25 (iff_ h26 (iff_ h27 (ift h28 e))))))))))))))))))))))))))))), r⟩
  by_cases h29 : (xs (5 * i) &&& 31) = 29
  · obtain ⟨M2, e, r⟩ := lwx_b29 (sc := sc) (xs := xs) hR hi hL hq5
    exact ⟨M2, bx s0 (iff_ h0 (iff_ h1 (iff_ h2 (iff_ h3 (iff_ h4 (iff_ h5 (iff_ h6 (iff_ h7 (iff_ h8 (iff_ h9 (iff_ h10 (iff_ h11 (iff_ h12 (iff_ h13 (iff_ h14 (iff_ h15 (iff_ h16 (iff_ h17 (iff_ h18 (iff_ h19 (iff_ h20 (iff_ h21 (iff_ h22 (iff_ h23 (iff_ h24 (iff_ h25 (iff_ h26 (iff_ h27 (iff_ h28 (ift h29 e)))))))))))))))))))))))))))))), r⟩
  by_cases h30 : (xs (5 * i) &&& 31) = 30
  · obtain ⟨M2, e, r⟩ := lwx_b30 (sc := sc) (xs := xs) hR hi hL hq5
    exact ⟨M2, bx s0 (iff_ h0 (iff_ h1 (iff_ h2 (iff_ h3 (iff_ h4 (iff_ h5 (iff_ h6 (iff_ h7 (iff_ h8 (iff_ h9 (iff_ h10 (iff_ h11 (iff_ h12 (iff_ h13 (iff_ h14 (iff_ h15 (iff_ h16 (iff_ h17 (iff_ h18 (iff_ h19 (iff_ h20 (iff_ h21 (iff_ h22 (iff_ h23 (iff_ h24 (iff_ h25 (iff_ h26 (iff_ h27 (iff_ h28 (iff_ h29 (ift h30 e))))))))))))))))))))))))))))))), r⟩
  obtain ⟨M2, e, r⟩ := lwx_bz (sc := sc) (xs := xs) (L := L) hR
  exact ⟨M2, bx s0 (iff_ h0 (iff_ h1 (iff_ h2 (iff_ h3 (iff_ h4 (iff_ h5 (iff_ h6 (iff_ h7 (iff_ h8 (iff_ h9 (iff_ h10 (iff_ h11 (iff_ h12 (iff_ h13 (iff_ h14 (iff_ h15 (iff_ h16 (iff_ h17 (iff_ h18 (iff_ h19 (iff_ h20 (iff_ h21 (iff_ h22 (iff_ h23 (iff_ h24 (iff_ h25 (iff_ h26 (iff_ h27 (iff_ h28 (iff_ h29 (iff_ h30 e))))))))))))))))))))))))))))))), r⟩
theorem lwx_loop (hR : ls_R n 0 M) (hL : L ≤ 2560) : f_L_law_18w sc xs L M (some n) (some (n + 31)) 0 = some 1 := by
  obtain ⟨r, e, hr⟩ := pe_loop (body := fun x : Nat × mm_M × Int32 => f_L_law_18 sc xs L x.2.1 x.1 (some n) (some (n + 31)) x.2.2) (fun i x => x.1 = i ∧ x.2.2 = nI (5 * i) ∧ ls_R n i x.2.1) (fun r => r = 1) 512 (x := (0, M, 0)) ⟨rfl, rfl, hR⟩ (by
    rintro i ⟨c, N, v⟩ hi ⟨h1, h2, h3⟩
    simp only at h1 h2 h3
    subst h1 h2
    by_cases h : nI L - 5 < nI (5 * c)
    · exact Or.inr ⟨1, ift h (gdx hi rfl), rfl⟩
    · have h5 := lwx_end hL hi h
      obtain ⟨M2, e, r⟩ := lwx_step (sc := sc) (xs := xs) h3 (by omega) hL h5
      refine Or.inl ⟨_, iff_ h e, ⟨rfl, ?_, r⟩, by omega⟩
      show nI (5 * c) + 5 = nI (5 * (c + 1))
      exact nI_add (5 * c) 5)
  exact e.trans (congrArg some hr)
end
theorem whole_hp (sc : Option Nat) (xs : Nat → Int32) (L n z : Nat) (hL : L ≤ 2560) (hz : z < n) : f_L_law_0 sc xs L (mm_em n z) = some 1 := by
  obtain ⟨T1, MF, e1, hn, e2, hR⟩ := whole_init hz
  have g : (f_X10_init (mm_nw T1 (11, 0)) (mm_n T1)).bind (fun M12 => f_L_law_18w sc xs L M12 (some n) (some (mm_n T1)) 0) = some 1 := by
    rw [hn]
    exact bx e2 (lwx_loop hR hL)
  exact bx e1 g
