section
variable {n k : Nat} {σ τ : ls_S} {B M M1 : mm_M}
/-- the state with one card more -/
def ls_cd (σ : ls_S) (c s : Nat) : ls_S := mm_u (mm_u (mm_u σ 0 c s) 2 c 0) 3 0 (c + 1)
theorem ls_cd_f (σ : ls_S) (c s : Nat) {f : Nat} (h : f ≠ 0 ∧ f ≠ 2 ∧ f ≠ 3) : ls_cd σ c s f = σ f := by
  funext j
  unfold ls_cd
  rw [mm_u, if_neg (fun q => h.2.2 q.1), mm_u, if_neg (fun q => h.2.1 q.1), mm_u, if_neg (fun q => h.1 q.1)]
theorem ls_cd_3 (σ : ls_S) (c s : Nat) : ls_cd σ c s 3 0 = c + 1 := by
  unfold ls_cd
  rw [mm_u, if_pos ⟨rfl, rfl⟩]
theorem ls_cd_0 (σ : ls_S) (c s j : Nat) : ls_cd σ c s 0 j = if j = c then s else σ 0 j := by
  unfold ls_cd
  rw [mm_u, if_neg (by omega), mm_u, if_neg (by omega), mm_u]
  by_cases e : j = c
  · rw [if_pos ⟨rfl, e⟩, if_pos e]
  · rw [if_neg (fun q => e q.2), if_neg e]
theorem ls_cd_2 (σ : ls_S) (c s j : Nat) : ls_cd σ c s 2 j = if j = c then 0 else σ 2 j := by
  unfold ls_cd
  rw [mm_u, if_neg (by omega), mm_u]
  by_cases e : j = c
  · rw [if_pos ⟨rfl, e⟩, if_pos e]
  · rw [if_neg (fun q => e q.2), if_neg e, mm_u, if_neg (by omega)]
theorem ls_G_cd (h : ls_G k σ) {s : Nat} (hc : σ 3 0 < 120) (hs : 1 ≤ s ∧ s ≤ 4) : ls_G k (ls_cd σ (σ 3 0) s) := by
  obtain ⟨h1, h2, h3, h4, h5, h6, h7, h8⟩ := h
  have e := fun {f} (hf : f ≠ 0 ∧ f ≠ 2 ∧ f ≠ 3) => ls_cd_f σ (σ 3 0) s hf
  have pl : ∀ q, ls_pl σ q → ls_pl (ls_cd σ (σ 3 0) s) q := fun q hq => by
    have := hq.1
    unfold ls_pl
    rw [ls_cd_3, ls_cd_0, if_neg (by omega)]
    exact ⟨by omega, hq.2⟩
  have ea : ∀ q, ls_at (ls_cd σ (σ 3 0) s) q = ls_at σ q := fun q => by
    unfold ls_at
    rw [e (f := 13) (by omega), e (f := 14) (by omega), e (f := 15) (by omega), e (f := 16) (by omega), e (f := 17) (by omega)]
  refine ⟨⟨by rw [ls_cd_3]; omega, fun c hc2 => ?_, fun c hc2 => ?_⟩, ?_, fun p hp q hq => ?_, fun p hp => ?_, ⟨?_, fun i hi => ?_⟩, ?_, ?_, fun p hp q hq => ⟨?_, fun hn => ?_⟩⟩
  · rw [ls_cd_3] at hc2
    rw [ls_cd_0]
    by_cases e2 : c = σ 3 0
    · rw [if_pos e2]; exact hs
    · rw [if_neg e2]; exact h1.2.1 c (by omega)
  · rw [ls_cd_3] at hc2
    rw [ls_cd_2, ls_cd_3, e (f := 1) (by omega)]
    by_cases e2 : c = σ 3 0
    · rw [if_pos e2]; exact ⟨by omega, fun k hk => absurd hk (Nat.not_lt_zero k)⟩
    · rw [if_neg e2]
      have := h1.2.2 c (by omega)
      exact ⟨this.1, fun k hk => by have := this.2 k hk; omega⟩
  · unfold ls_O2
    rw [e (f := 4) (by omega), e (f := 5) (by omega), e (f := 6) (by omega), e (f := 7) (by omega), e (f := 8) (by omega)]
    exact h2
  · rw [ea, e (f := 8) (by omega)]; exact h3 p hp q hq
  · rw [e (f := 10) (by omega), e (f := 9) (by omega), ls_cd_3]
    exact ⟨by have := (h4 p hp).1; omega, fun i hi => pl _ ((h4 p hp).2.1 i hi), (h4 p hp).2.2⟩
  · rw [e (f := 28) (by omega)]; exact h5.1
  · rw [e (f := 28) (by omega)] at hi
    have ew : ls_was (ls_cd σ (σ 3 0) s) i = ls_was σ i := by
      unfold ls_was
      rw [e (f := 23) (by omega), e (f := 24) (by omega), e (f := 25) (by omega), e (f := 26) (by omega), e (f := 27) (by omega)]
    rw [ew, e (f := 18) (by omega), e (f := 19) (by omega), e (f := 20) (by omega), e (f := 21) (by omega), e (f := 22) (by omega), e (f := 8) (by omega)]
    have := h5.2 i hi
    exact ⟨this.1, pl _ this.2.1, this.2.2⟩
  · unfold ls_O6
    rw [e (f := 38) (by omega), e (f := 39) (by omega), e (f := 40) (by omega), e (f := 41) (by omega), e (f := 42) (by omega), e (f := 43) (by omega)]
    exact h6
  · unfold ls_O7
    rw [e (f := 12) (by omega), e (f := 11) (by omega)]
    exact h7
  · rw [ea]; exact (h8 p hp q hq).1
  · rw [ea, e (f := 11) (by omega), e (f := 12) (by omega)]
    exact (h8 p hp q hq).2 (fun z => hn (pl q z))
/-- and with the shadow's memories of it new -/
def ls_ce (σ : ls_S) (c : Nat) : ls_S := fun f j => if 11 ≤ f ∧ f ≤ 17 ∧ 1920 + 4 * c ≤ j ∧ j < 1920 + 4 * c + 4 then (if f = 14 then 2500 else 0) else σ f j
theorem ls_ce_s (σ : ls_S) (c : Nat) : ls_s σ (ls_ce σ c) := fun f j h => if_neg (by omega)
theorem ls_new7 : ∀ k, k < 7 → ls_en (lc_fl k) (if lc_fl k = 14 then 2500 else 0) = lc_n7 k := by decide
theorem ls_fl_b : ∀ k, k < 7 → 11 ≤ lc_fl k ∧ lc_fl k ≤ 17 := by decide
theorem ca_card (hM : ls_M n σ M M) (hc : lc n σ M M) (hG : ls_G k σ) (x : Int32) : ls_cc n k M (fun M => f_X9_card M (some n) x) (fun M => f_X10_card M (some (n + 31)) x) := by
  by_cases hx : 1 ≤ x ∧ x ≤ 4
  · obtain ⟨s, hs1, hs4, rfl⟩ := pe_arg1 (n := 4) (by omega) hx.1 hx.2
    have O1 := hG.1
    have h120 := O1.1
    have cs : ∀ {w}, (if nI (σ 3 0) < 120 then f_X9_card_27 M (some n) (nI s) else f_X9_card_24 M) = w → f_X9_card M (some n) (nI s) = w := fun q => iff_ (Int32.not_lt.mpr hx.1) (ift hx.2 (bx (lc_r0 hc 1 3 (by decide)) (bx (pe_rc (lc_kdk hc)) (bx (a := nI (σ 3 0)) (bx (lc_rdk hc 0 4 (by decide)) (bx (pe_rc (lc_kdl hc)) (bx (lc_dsz hc) rfl))) q))))
    by_cases hf : σ 3 0 = 120
    · exact ⟨-2, M, M, cs (iff_ (nI_nlt (a := σ 3 0) (b := 120) (by omega) (by omega)) rfl), bx (ls_within_in _ hx) (iff_ ne10 (bx (ls_fI hM 3 (by decide)) (ift (show nI (σ 3 0) = nI 120 by rw [hf]) rfl))), ls_no hM hc hG⟩
    · have hlt : σ 3 0 < 120 := by omega
      have hGc := ls_G_cd hG hlt ⟨hs1, hs4⟩
      have hs := ls_ce_s (ls_cd σ (σ 3 0) s) (σ 3 0)
      have e3 : ls_ce (ls_cd σ (σ 3 0) s) (σ 3 0) 3 0 = σ 3 0 + 1 := by rw [hs 3 0 (by omega), ls_cd_3]
      have ef : ∀ f, f < 11 ∨ 17 < f → f ≠ 0 ∧ f ≠ 2 ∧ f ≠ 3 → ls_ce (ls_cd σ (σ 3 0) s) (σ 3 0) f = σ f := fun f h1 h2 => (ls_s_f hs h1).trans (ls_cd_f σ _ s h2)
      have e0 : ∀ j, ls_ce (ls_cd σ (σ 3 0) s) (σ 3 0) 0 j = if j = σ 3 0 then s else σ 0 j := fun j => by rw [hs 0 j (by omega), ls_cd_0]
      have e2 : ∀ j, ls_ce (ls_cd σ (σ 3 0) s) (σ 3 0) 2 j = if j = σ 3 0 then 0 else σ 2 j := fun j => by rw [hs 2 j (by omega), ls_cd_2]
      have lg0 : lg n (ls_ce (ls_cd σ (σ 3 0) s) (σ 3 0)) (fun _ => σ 3 0) (σ 3 0) (σ 28 0) M M := by
        refine lg_σ (lg_of hc) (fun p hp c hc2 => by rw [e0, if_neg (show ¬ c = σ 3 0 by have : c < σ 3 0 := hc2; omega)]) (fun p hp c hc2 j hj k hk => ?_) (fun c hc2 => by rw [e2, if_neg (by omega), ef 1 (by omega) (by omega)]; exact ⟨rfl, fun _ _ => rfl⟩) (fun i hi f h1 h2 => by rw [ef f (by omega) (by omega)]) (fun f h => ef f (by omega) (by omega))
        have hc3 : c < σ 3 0 := hc2
        have h4 := (O1.2.1 c hc3).2
        have hfl := ls_fl_b k hk
        have : ls_ce (ls_cd σ (σ 3 0) s) (σ 3 0) (lc_fl k) (480 * p + 4 * c + j) = ls_cd σ (σ 3 0) s (lc_fl k) (480 * p + 4 * c + j) := if_neg (by omega)
        rw [this, ls_cd_f σ _ s (by omega)]
      have edef : ∀ p, p < 5 → ∀ j, j < s → ∀ k, k < 7 → ls_en (lc_fl k) (ls_ce (ls_cd σ (σ 3 0) s) (σ 3 0) (lc_fl k) (480 * p + 4 * σ 3 0 + j)) = lc_n7 k := fun p hp j hj k hk => by
        have hfl := ls_fl_b k hk
        rw [← ls_new7 k hk]
        congr 1
        by_cases h4 : p = 4
        · exact if_pos (by omega)
        · have : ls_ce (ls_cd σ (σ 3 0) s) (σ 3 0) (lc_fl k) (480 * p + 4 * σ 3 0 + j) = ls_cd σ (σ 3 0) s (lc_fl k) (480 * p + 4 * σ 3 0 + j) := if_neg (by omega)
          rw [this, ls_cd_f σ _ s (by omega), Nat.add_assoc]
          have o8 := (hG.2.2.2.2.2.2.2 p (by omega) (4 * σ 3 0 + j) (by omega)).2 (fun z => by have := z.1; omega)
          obtain ⟨oa, ob, oc⟩ := o8
          have v1 : σ 13 (480 * p + (4 * σ 3 0 + j)) = 0 := congrArg (fun x : ls_V => x.1) oa
          have v2 : σ 14 (480 * p + (4 * σ 3 0 + j)) = 2500 := congrArg (fun x : ls_V => x.2.1) oa
          have v3 : σ 15 (480 * p + (4 * σ 3 0 + j)) = 0 := congrArg (fun x : ls_V => x.2.2.1) oa
          have v4 : σ 16 (480 * p + (4 * σ 3 0 + j)) = 0 := congrArg (fun x : ls_V => x.2.2.2.1) oa
          have v5 : σ 17 (480 * p + (4 * σ 3 0 + j)) = 0 := congrArg (fun x : ls_V => x.2.2.2.2) oa
          have k7 : k = 0 ∨ k = 1 ∨ k = 2 ∨ k = 3 ∨ k = 4 ∨ k = 5 ∨ k = 6 := by omega
          rcases k7 with rfl | rfl | rfl | rfl | rfl | rfl | rfl
          · exact v1
          · exact v2
          · exact v3
          · exact v4
          · exact v5
          · exact oc
          · exact ob
      have eσ : ∃ τ, τ = ls_ce (ls_cd σ (σ 3 0) s) (σ 3 0) := ⟨_, rfl⟩
      obtain ⟨τ, hτ⟩ := eσ
      rw [← hτ] at lg0 hs e3 ef e0 e2 edef
      have e00 : τ 0 (σ 3 0) = s := by rw [e0, if_pos rfl]
      have e28 : τ 28 0 = σ 28 0 := by rw [ef 28 (by omega) (by omega)]
      obtain ⟨y, hy, M1, rfl, lg1⟩ := pe_cnt (body := fun x : Nat × mm_M × Int32 => f_X9_card_29 x.2.1 x.1 (some n) (nI s) x.2.2) (x := (0, M, 0))
        (fun i x => ∃ M1, x = (i, M1, nI i) ∧ lg n τ (fun q => if q < i then σ 3 0 + 1 else σ 3 0) (σ 3 0) (σ 28 0) M M1)
        (fun y => ∃ M4, y = (nI (σ 3 0), M4) ∧ lg n τ (fun _ => σ 3 0 + 1) (σ 3 0 + 1) (σ 28 0) M M4) 4 ⟨M, rfl, lg0⟩ (by
          rintro i x hi ⟨M1, rfl, l1⟩
          have ki : (if i < i then σ 3 0 + 1 else σ 3 0) = σ 3 0 := if_neg (by omega)
          obtain ⟨M2, f2, l2⟩ := cl_addCard l1 (p := i) (s := s) (κ1 := fun q => if q < i + 1 then σ 3 0 + 1 else σ 3 0) (by omega) hs1 hs4 (by show (if i < i then σ 3 0 + 1 else σ 3 0) ≤ 119; omega) (by show τ 0 (if i < i then σ 3 0 + 1 else σ 3 0) = s; rw [ki]; exact e00) (by show ∀ j, j < s → ∀ k, k < 7 → ls_en (lc_fl k) (τ (lc_fl k) (480 * i + 4 * (if i < i then σ 3 0 + 1 else σ 3 0) + j)) = lc_n7 k; rw [ki]; exact edef i (by omega)) (by show (if i < i + 1 then σ 3 0 + 1 else σ 3 0) = (if i < i then σ 3 0 + 1 else σ 3 0) + 1; rw [ki, if_pos (by omega)]) (fun q hq hne => by
            show (if q < i + 1 then σ 3 0 + 1 else σ 3 0) = (if q < i then σ 3 0 + 1 else σ 3 0)
            by_cases e : q < i
            · rw [if_pos e, if_pos (by omega)]
            · rw [if_neg e, if_neg (by omega)])
          have k0 : mm_k M1 n = some (10, 0) := l1.1.1 (0, 10, 0) (by decide)
          have r2 : mm_R M1 n 2 = some (n + 7) := l1.1.2 (0, 2, 7) (by decide)
          have k7 : mm_k M1 (n + 7) = some (15, 4) := l1.1.1 (7, 15, 4) (by decide)
          have q : ∀ p, p < 4 → (7, p, lc_lo p) ∈ lc_rt ∧ (lc_lo p, 7, 0) ∈ lc_kt := by decide
          refine ⟨(i + 1, M2, nI (i + 1)), bx (pfR k0 r2) (bx (pe_ln k7 (by omega)) (iff_ (nI_ge (b := 4) hi (by omega)) (bx (pfR k0 r2) (bx (paR k7 hi (by omega) (l1.1.2 _ (q i hi).1)) (bx (pe_rc (l1.1.1 _ (q i hi).2)) (gdx hi (bx f2 ?_))))))), M2, rfl, l2⟩
          show some (Sum.inl (i + 1, M2, nI i + 1)) = _
          rw [nI_1]) (by
          rintro x ⟨M1, rfl, l1⟩
          have k0 : mm_k M1 n = some (10, 0) := l1.1.1 (0, 10, 0) (by decide)
          have r2 : mm_R M1 n 2 = some (n + 7) := l1.1.2 (0, 2, 7) (by decide)
          have r3 : mm_R M1 n 3 = some (n + 8) := l1.1.2 (0, 3, 8) (by decide)
          have k7 : mm_k M1 (n + 7) = some (15, 4) := l1.1.1 (7, 15, 4) (by decide)
          have k8 : mm_k M1 (n + 8) = some (7, 0) := l1.1.1 (8, 7, 0) (by decide)
          obtain ⟨M2, f2, l2⟩ := cl_addCard l1 (p := 4) (s := s) (κ1 := fun _ => σ 3 0 + 1) (by omega) hs1 hs4 (by show σ 3 0 ≤ 119; omega) e00 (edef 4 (by omega)) rfl (fun q hq hne => (if_pos (show q < 4 by omega)).symm)
          have m0 : mm_k M2 n = some (10, 0) := l2.1.1 (0, 10, 0) (by decide)
          have m1 : mm_R M2 n 1 = some (n + 3) := l2.1.2 (0, 1, 3) (by decide)
          have m3 : mm_k M2 (n + 3) = some (3, 0) := l2.1.1 (3, 3, 0) (by decide)
          obtain ⟨M3, f3, l3⟩ := cl_deckAdd l2 (by omega) (by rw [e2, if_pos rfl])
          exact ⟨_, bx (pfR k0 r2) (bx (pe_ln k7 (by omega)) (ift (nI_le (a := 4) (Nat.le_refl _) (by omega)) (gdx (show (4 : Nat) ≤ 4 by omega) (mpx (bx (pfR k0 r3) (bx (pe_rc k8) (bx f2 (bx (pfR m0 m1) (bx (pe_rc m3) (b2x f3 rfl)))))))))), M3, rfl, l3⟩)
      have hcl : lc n τ M M1 := lg_to (by rw [e3, e28]; exact lg1)
      have hM1 := ls_M_mv hM hcl.2.2
      obtain ⟨M2, f2, h2⟩ := ls_tI hM1 0 (σ 3 0) s (by decide) rfl hlt
      have t3 : mm_u σ 0 (σ 3 0) s 3 0 = σ 3 0 := by rw [mm_u, if_neg (by omega)]
      obtain ⟨M3, f3, h3⟩ := ls_tI h2 2 (σ 3 0) 0 (by decide) rfl hlt
      have t3' : mm_u (mm_u σ 0 (σ 3 0) s) 2 (σ 3 0) 0 3 0 = σ 3 0 := by rw [mm_u, if_neg (by omega)]; exact t3
      obtain ⟨M4, f4, h4⟩ := ls_pI h3 3 (σ 3 0 + 1) (by decide)
      have g2 := ls_fI h2 3 (by decide)
      rw [t3] at g2
      have g3 := ls_fI h3 3 (by decide)
      rw [t3'] at g3
      have g4 := ls_fI h4 3 (by decide)
      rw [show mm_u (mm_u (mm_u σ 0 (σ 3 0) s) 2 (σ 3 0) 0) 3 0 (σ 3 0 + 1) 3 0 = σ 3 0 + 1 from if_pos ⟨rfl, rfl⟩] at g4
      refine ⟨nI (σ 3 0), M1, M4, cs (ift (nI_lt (b := 120) hlt (by omega)) hy), bx (ls_within_in _ hx) (iff_ ne10 (bx (ls_fI hM1 3 (by decide)) (iff_ (show ¬ nI (σ 3 0) = nI 120 from fun q => hf ((nI_eq (by omega) (by omega)).mp q)) (bx (ls_fR hM1 0 (by decide)) (bx (ls_fI hM1 3 (by decide)) (bx f2 (bx (ls_fR h2 2 (by decide)) (bx g2 (bx f3 (bx g3 (bx (a := M4) (by show mm_pI M3 _ 11 3 (nI (σ 3 0) + 1) = _; rw [nI_1]; exact f4) (bx g4 ?_)))))))))))), ls_fin (ls_M_s h4 hs) hcl (ls_G_w hGc (ls_w_s hs))⟩
      show some (nI (σ 3 0 + 1) - 1, M4) = _
      rw [nI_pred]
  · refine ⟨-1, M, M, ?_, bx (ls_within_out _ hx) (ift rfl rfl), ls_no hM hc hG⟩
    by_cases h1 : x < 1
    · exact ift h1 rfl
    · exact iff_ h1 (iff_ (fun q => hx ⟨Int32.not_lt.mp h1, q⟩) rfl)
end
