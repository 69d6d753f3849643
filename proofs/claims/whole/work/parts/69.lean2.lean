section
variable {n k : Nat} {σ τ υ : ls_S} {B M M1 : mm_M}
/-- what is marked as come to -/
def ls_ct (σ τ : ls_S) (a : Nat) : Prop := ls_e σ τ ∧ (∀ c, c < σ 3 0 → τ 44 c ≤ 1) ∧ τ 44 a = 1 ∧ ∀ c, c < σ 3 0 → τ 44 c = 1 → ls_rch σ a c
/-- what is marked below c leads on to marked ones -/
def ls_cl (σ τ : ls_S) (c : Nat) : Prop := ∀ d, d < c → τ 44 d = 1 → ∀ j, j < σ 2 d → τ 44 (σ 1 (4 * d + j)) = 1
theorem ls_u44 (τ : ls_S) (t c : Nat) : mm_u τ 44 t 1 44 c = if c = t then 1 else τ 44 c := by
  rw [mm_u]
  by_cases e : c = t
  · rw [if_pos ⟨rfl, e⟩, if_pos e]
  · rw [if_neg (fun z => e z.2), if_neg e]
theorem ls_ct_u {a t : Nat} (h : ls_ct σ τ a) (hr : ls_rch σ a t) : ls_ct σ (mm_u τ 44 t 1) a := by
  refine ⟨ls_e_u h.1 (by omega), fun c hc => ?_, ?_, fun c hc q => ?_⟩
  · rw [ls_u44]
    split
    · omega
    · exact h.2.1 c hc
  · rw [ls_u44]
    split
    · rfl
    · exact h.2.2.1
  · rw [ls_u44] at q
    by_cases e : c = t
    · rw [e]; exact hr
    · rw [if_neg e] at q
      exact h.2.2.2 c hc q
theorem ls_leads (h : ls_M n σ B M) (h1 : ls_O1 σ) {a t : Nat} (ha : a < σ 3 0) (ht : t < σ 3 0) : ∃ r M1 τ, f_X10_leads M (some (n + 31)) (nI a) (nI t) = some (r, M1) ∧ ls_M n τ B M1 ∧ ls_e σ τ ∧ ((r = 1 ∧ ls_rch σ a t) ∨ (r = 0 ∧ ¬ ls_rch σ a t)) := by
  have h120 := h1.1
  obtain ⟨q, hq, r, M1, τ, rfl, hm, he, hr⟩ := pe_cnt (body := fun x : mm_M × Int32 => f_X10_leads_2 x.1 (some (n + 31)) (nI a) (nI t) x.2) (x := (M, 0)) (fun i x => ∃ M1 τ, x = (M1, nI i) ∧ ls_M n τ B M1 ∧ ls_e σ τ ∧ ∀ c, c < i → τ 44 c = if c = a then 1 else 0) (fun q => ∃ r M1 τ, q = (r, M1) ∧ ls_M n τ B M1 ∧ ls_e σ τ ∧ ((r = 1 ∧ ls_rch σ a t) ∨ (r = 0 ∧ ¬ ls_rch σ a t))) (σ 3 0) ⟨M, σ, rfl, h, ls_e_rf σ, fun c hc => absurd hc (Nat.not_lt_zero c)⟩ (by
      rintro i x hi ⟨M1, τ, rfl, hm, he, hz⟩
      have e3 : τ 3 0 = σ 3 0 := by rw [he 3 (by omega)]
      obtain ⟨M2, e2, h2⟩ := ls_tZ hm 44 i (if i = a then 1 else 0) (by decide) rfl (show i < 120 by omega) (by split; exact Or.inr rfl; exact Or.inl rfl)
      refine ⟨(M2, nI (i + 1)), bx (ls_fI hm 3 (by decide)) (iff_ (show ¬ nI (τ 3 0) ≤ nI i by rw [e3]; exact nI_ge hi (by omega)) (bx (ls_fR hm 44 (by decide)) ?_)), M2, _, rfl, h2, ls_e_u he (by omega), fun c hc => ?_⟩
      · have hn : some (Sum.inl (M2, nI i + 1)) = (some (Sum.inl (M2, nI (i + 1))) : Option ((mm_M × Int32) ⊕ (Int32 × mm_M))) := by rw [nI_1]
        by_cases e : i = a
        · rw [if_pos e] at e2
          exact ift (by rw [e]) (bx e2 hn)
        · rw [if_neg e] at e2
          exact iff_ (fun q => e ((nI_eq (by omega) (by omega)).mp q)) (bx e2 hn)
      · rw [mm_u]
        by_cases e : c = i
        · rw [if_pos ⟨rfl, e⟩, e]
        · rw [if_neg (fun z => e z.2)]
          exact hz c (by omega)) (by
      rintro x ⟨M1, τ, rfl, hm, he, hz⟩
      have e3 : τ 3 0 = σ 3 0 := by rw [he 3 (by omega)]
      have hct : ls_ct σ τ a := ⟨he, fun c hc => by rw [hz c hc]; split <;> omega, by rw [hz a ha, if_pos rfl], fun c hc q => by
        rw [hz c hc] at q
        by_cases e : c = a
        · rw [e]; exact fun P p _ => p
        · rw [if_neg e] at q; omega⟩
      obtain ⟨q, hq, r, M3, τ3, rfl, hm3, he3, hr3⟩ := pe_loop (body := fun x : mm_M × Int32 => f_X10_leads_34 x.1 (some (n + 31)) (nI t) x.2) (x := (M1, 1)) (fun i x => ∃ M1 τ m, x = (M1, nI m) ∧ ls_M n τ B M1 ∧ ls_ct σ τ a ∧ ((m = 1 ∧ i ≤ ls_sm (τ 44) (σ 3 0)) ∨ (m = 0 ∧ ls_cl σ τ (σ 3 0) ∧ i ≤ ls_sm (τ 44) (σ 3 0) + 1))) (fun q => ∃ r M1 τ, q = (r, M1) ∧ ls_M n τ B M1 ∧ ls_e σ τ ∧ ((r = 1 ∧ ls_rch σ a t) ∨ (r = 0 ∧ ¬ ls_rch σ a t))) (σ 3 0 + 2) ⟨M1, τ, 1, rfl, hm, hct, Or.inl ⟨rfl, Nat.zero_le _⟩⟩ (by
          rintro i x hi ⟨M1, τ, m, rfl, hm, hct, hc⟩
          have hle := ls_sm_le (f := τ 44) (N := σ 3 0) hct.2.1
          rcases hc with ⟨rfl, hc⟩ | ⟨rfl, hcl, hc⟩
          · left
            obtain ⟨y, hy, M2, τ2, m2, rfl, hm2, hct2, hmm, hcn, hcl⟩ := pe_cnt (body := fun x : mm_M × Int32 × Int32 => f_X10_leads_43 x.1 (some (n + 31)) (nI t) x.2.1 x.2.2) (x := (M1, 0, 0)) (fun c x => ∃ M2 τ2 m, x = (M2, nI m, nI c) ∧ ls_M n τ2 B M2 ∧ ls_ct σ τ2 a ∧ m ≤ 1 ∧ ls_sm (τ 44) (σ 3 0) + m ≤ ls_sm (τ2 44) (σ 3 0) ∧ (m = 0 → ls_cl σ τ2 c)) (fun q => ∃ M2 τ2 m, q = .inl (M2, nI m) ∧ ls_M n τ2 B M2 ∧ ls_ct σ τ2 a ∧ m ≤ 1 ∧ ls_sm (τ 44) (σ 3 0) + m ≤ ls_sm (τ2 44) (σ 3 0) ∧ (m = 0 → ls_cl σ τ2 (σ 3 0))) (σ 3 0) ⟨M1, τ, 0, rfl, hm, hct, by omega, by omega, fun _ d hd => absurd hd (Nat.not_lt_zero d)⟩ (by
                rintro c x hc2 ⟨M2, τ2, m, rfl, hm2, hct2, hmm, hcn, hcl⟩
                have e3 : τ2 3 0 = σ 3 0 := by rw [hct2.1 3 (by omega)]
                obtain ⟨hl4, htg⟩ := h1.2.2 c hc2
                obtain ⟨y, hy, M3, τ3, m3, rfl, hm3, hct3, hmm3, hcn3, hcl3⟩ := pe_loop (body := fun x : mm_M × Int32 × Int32 => f_X10_leads_55 x.1 (some (n + 31)) (nI t) x.2.1 (nI c) x.2.2) (x := (M2, nI m, 0)) (fun j x => ∃ M3 τ3 m3, x = (M3, nI m3, nI j) ∧ ls_M n τ3 B M3 ∧ ls_ct σ τ3 a ∧ m3 ≤ 1 ∧ ls_sm (τ 44) (σ 3 0) + m3 ≤ ls_sm (τ3 44) (σ 3 0) ∧ (m3 = 0 → ls_cl σ τ3 c) ∧ ∀ l, l < j → τ3 44 (σ 1 (4 * c + l)) = 1) (fun q => ∃ M3 τ3 m3, q = .inl (M3, nI m3, nI (c + 1)) ∧ ls_M n τ3 B M3 ∧ ls_ct σ τ3 a ∧ m3 ≤ 1 ∧ ls_sm (τ 44) (σ 3 0) + m3 ≤ ls_sm (τ3 44) (σ 3 0) ∧ (m3 = 0 → ls_cl σ τ3 (c + 1))) (σ 2 c) ⟨M2, τ2, m, rfl, hm2, hct2, hmm, hcn, hcl, fun l hl => absurd hl (Nat.not_lt_zero l)⟩ (by
                    rintro j x hj ⟨M3, τ3, m3, rfl, hm3, hct3, hmm3, hcn3, hcl3, hdn⟩
                    have e2 : τ3 2 c = σ 2 c := by rw [hct3.1 2 (by omega)]
                    have ex : f_X10_leads_131 M3 (some (n + 31)) (nI t) (nI m3) (nI c) = some (.inl (M3, nI m3, nI (c + 1))) := by
                      show some (Sum.inl (M3, nI m3, nI c + 1)) = _
                      rw [nI_1]
                    by_cases ej : j = σ 2 c
                    · subst ej
                      refine Or.inr ⟨_, bx (ls_fR hm3 2 (by decide)) (bx (ls_aI hm3 2 c (by decide) (show c < 120 by omega)) (ift (show nI (τ3 2 c) ≤ nI (σ 2 c) by rw [e2]; exact nI_le (Nat.le_refl _) (by omega)) (mpx ex))), M3, τ3, m3, rfl, hm3, hct3, hmm3, hcn3, fun q d hd hd1 l hl => ?_⟩
                      by_cases ed : d = c
                      · subst ed; exact hdn l hl
                      · exact hcl3 q d (by omega) hd1 l hl
                    · have hj2 : j < σ 2 c := by omega
                      have hb := hct3.2.1 c hc2
                      have X : ∀ {r}, f_X10_leads_67 M3 (some (n + 31)) (nI t) (nI m3) (nI c) (nI j) = r → f_X10_leads_55 M3 (some (n + 31)) (nI t) (nI m3) (nI c) (nI j) = r := fun q => bx (ls_fR hm3 2 (by decide)) (bx (ls_aI hm3 2 c (by decide) (show c < 120 by omega)) (iff_ (show ¬ nI (τ3 2 c) ≤ nI j by rw [e2]; exact nI_ge hj2 (by omega)) q))
                      by_cases ec : τ3 44 c = 0
                      · refine Or.inr ⟨_, X (bx (ls_fR hm3 44 (by decide)) (bx (ls_aI hm3 44 c (by decide) (show c < 120 by omega)) (ift (show nI (τ3 44 c) = 0 by rw [ec]; decide) (mpx ex)))), M3, τ3, m3, rfl, hm3, hct3, hmm3, hcn3, fun q d hd hd1 l hl => ?_⟩
                        by_cases ed : d = c
                        · subst ed; omega
                        · exact hcl3 q d (by omega) hd1 l hl
                      · have ht1 := htg j hj2
                        have e1 : τ3 1 (4 * c + j) = σ 1 (4 * c + j) := by rw [hct3.1 1 (by omega)]
                        have hbt := hct3.2.1 _ ht1
                        have hrt := ls_rch_s (hct3.2.2.2 c hc2 (by omega)) hc2 hj2
                        have A : mm_aI M3 (some (ls_ad n 1)) 12 (4 * nI c + nI j) = some (nI (σ 1 (4 * c + j))) := by
                          rw [ls_ix4, ← e1]; exact ls_aI hm3 1 _ (by decide) (show 4 * c + j < 480 by omega)
                        obtain ⟨M4, f4, h4⟩ := ls_tZ hm3 44 (σ 1 (4 * c + j)) 1 (by decide) rfl (show _ < 120 by omega) (Or.inr rfl)
                        have hup := ls_sm_up (f := τ3 44) (g := mm_u τ3 44 (σ 1 (4 * c + j)) 1 44) (t := σ 1 (4 * c + j)) (N := σ 3 0) ht1 (fun l hl => by rw [ls_u44, if_neg hl])
                        rw [ls_u44, if_pos rfl] at hup
                        have fin : ∀ s0, f_X10_leads_106 M3 (some (n + 31)) (nI t) (nI c) (nI j) s0 = some (.inl (M4, s0, nI (j + 1))) := fun s0 => bx (ls_fR hm3 44 (by decide)) (bx (ls_fR hm3 1 (by decide)) (bx A (bx f4 (by rw [← nI_1]))))
                        have hct4 := ls_ct_u hct3 hrt
                        have hdn4 : ∀ l, l < j + 1 → mm_u τ3 44 (σ 1 (4 * c + j)) 1 44 (σ 1 (4 * c + l)) = 1 := fun l hl => by
                          rw [ls_u44]
                          split
                          · rfl
                          · rename_i hne
                            exact hdn l (by
                              rcases Nat.lt_or_ge l j with h | h
                              · exact h
                              · exact absurd (by rw [show l = j by omega]) hne)
                        have Y : ∀ {r}, f_X10_leads_77 M3 (some (n + 31)) (nI t) (nI m3) (nI c) (nI j) = r → f_X10_leads_55 M3 (some (n + 31)) (nI t) (nI m3) (nI c) (nI j) = r := fun q => X (bx (ls_fR hm3 44 (by decide)) (bx (ls_aI hm3 44 c (by decide) (show c < 120 by omega)) (iff_ (show ¬ nI (τ3 44 c) = 0 from nI_ne0 (by omega) (by omega)) q)))
                        by_cases em : m3 = 0
                        · have Z : ∀ {r}, (if nI (τ3 44 (σ 1 (4 * c + j))) = 0 then f_X10_leads_101 M3 (some (n + 31)) (nI t) (nI c) (nI j) else f_X10_leads_105 M3 (some (n + 31)) (nI t) (nI c) (nI j)) = r → f_X10_leads_55 M3 (some (n + 31)) (nI t) (nI m3) (nI c) (nI j) = r := fun q => Y (ift (by rw [em]; decide) (bx (ls_fR hm3 44 (by decide)) (bx (ls_fR hm3 1 (by decide)) (bx A (bx (ls_aI hm3 44 _ (by decide) (show _ < 120 by omega)) q)))))
                          by_cases eb : τ3 44 (σ 1 (4 * c + j)) = 0
                          · exact Or.inl ⟨_, Z (ift (by rw [eb]; decide) (fin 1)), ⟨M4, _, 1, rfl, h4, hct4, by omega, by omega, fun q => absurd q (by omega), hdn4⟩, hj2⟩
                          · have eb1 : τ3 44 (σ 1 (4 * c + j)) = 1 := by omega
                            have same : ∀ l, mm_u τ3 44 (σ 1 (4 * c + j)) 1 44 l = τ3 44 l := fun l => by
                              rw [ls_u44]
                              split
                              · rename_i h; rw [h, eb1]
                              · rfl
                            refine Or.inl ⟨_, Z (iff_ (nI_ne0 (by omega) (by omega)) (fin 0)), ⟨M4, _, 0, rfl, h4, hct4, by omega, by omega, fun _ d hd hd1 l hl => ?_, hdn4⟩, hj2⟩
                            rw [same] at hd1 ⊢
                            exact hcl3 em d hd hd1 l hl
                        · exact Or.inl ⟨_, Y (iff_ (nI_ne0 (by omega) (by omega)) (fin 1)), ⟨M4, _, 1, rfl, h4, hct4, by omega, by omega, fun q => absurd q (by omega), hdn4⟩, hj2⟩)
                exact ⟨_, bx (ls_fI hm2 3 (by decide)) (iff_ (show ¬ nI (τ2 3 0) ≤ nI c by rw [e3]; exact nI_ge hc2 (by omega)) hy), M3, τ3, m3, rfl, hm3, hct3, hmm3, hcn3, hcl3⟩) (by
                rintro x ⟨M2, τ2, m, rfl, hm2, hct2, hmm, hcn, hcl⟩
                have e3 : τ2 3 0 = σ 3 0 := by rw [hct2.1 3 (by omega)]
                exact ⟨_, bx (ls_fI hm2 3 (by decide)) (ift (show nI (τ2 3 0) ≤ nI (σ 3 0) by rw [e3]; exact nI_le (Nat.le_refl _) (by omega)) (mpx rfl)), M2, τ2, m, rfl, hm2, hct2, hmm, hcn, hcl⟩)
            refine ⟨_, iff_ ne10 hy, ⟨M2, τ2, m2, rfl, hm2, hct2, ?_⟩, by omega⟩
            by_cases em : m2 = 0
            · exact Or.inr ⟨em, hcl em, by omega⟩
            · exact Or.inl ⟨by omega, by omega⟩
          · right
            have hbt := hct.2.1 t ht
            have X : ∀ {r}, r = nI (τ 44 t) → (r = 0 ∨ r = 1) → f_X10_leads_34 M1 (some (n + 31)) (nI t) (nI 0) = some (.inr (r, M1)) := fun hr h01 => ift (by decide) (mpx (bx (ls_fR hm 44 (by decide)) (bx ((ls_aI hm 44 t (by decide) (show t < 120 by omega)).trans (congrArg some hr.symm)) (gz h01 rfl))))
            by_cases eb : τ 44 t = 1
            · exact ⟨_, X (r := 1) (by rw [eb]; rfl) (Or.inr rfl), 1, M1, τ, rfl, hm, hct.1, Or.inl ⟨rfl, hct.2.2.2 t ht eb⟩⟩
            · refine ⟨_, X (r := 0) (by rw [show τ 44 t = 0 by omega]; rfl) (Or.inl rfl), 0, M1, τ, rfl, hm, hct.1, Or.inr ⟨rfl, fun q => eb (q (fun c => τ 44 c = 1) hct.2.2.1 (fun c hc2 hb j hj => hcl c hc2 hb j hj))⟩⟩)
      exact ⟨_, bx (ls_fI hm 3 (by decide)) (ift (show nI (τ 3 0) ≤ nI (σ 3 0) by rw [e3]; exact nI_le (Nat.le_refl _) (by omega)) (mpx hq)), r, M3, τ3, rfl, hm3, he3, hr3⟩)
  exact ⟨r, M1, τ, hq, hm, he, hr⟩
/-- a leaning written -/
theorem lc_wlean (h : lc n σ B M) (h1 : ls_O1 σ) {a : Nat} (ha : a < σ 3 0) (hm : σ 2 a < 4) (b : Nat) : lc n (mm_u (mm_u σ 1 (4 * a + σ 2 a) b) 2 a (σ 2 a + 1)) B (mm_sI (mm_sI M (lc_kl n M a) (σ 2 a) (nI b)) (lc_kd n M a) 1 (nI (σ 2 a + 1))) := by
  obtain ⟨hK, ⟨i1, i2, i3, i4, i5, i6, i7, i8, i9, ia, ib, ic⟩, hmf⟩ := id h
  have kk := hK.2.2.2.2.2.1 a ha
  have dd := hK.2.2.2.2.2.2.1
  have hlo : ∀ p, p < 5 → lc_lo p ≤ 28 := fun p hp => (lc_lo29 hp).2.1
  have kne : lc_kl n M a ≠ lc_kd n M a := lc_kne kk.2.2.2.1 kk.1 (by decide)
  refine ⟨hK, ⟨lc_e1 (lc_e1 i1 _ _ (by omega)) _ _ (by omega), lc_e2 (lc_e2 i2 _ _ (by omega)) _ _ (by omega), lc_e3 (lc_e3 i3 _ _ (by omega) (by omega)) _ _ (by omega) (by omega), lc_e4 (lc_e4 i4 _ _ (fun p hp => by have := hlo p hp; omega) (by omega) (by omega)) _ _ (fun p hp => by have := hlo p hp; omega) (by omega) (by omega), lc_e5 (lc_e5 i5 _ _ (fun p hp => by have := hlo p (by omega); omega)) _ _ (fun p hp => by have := hlo p (by omega); omega), lc_e6 (lc_e6 i6 _ _ (fun p hp => by have := hlo p (by omega); omega)) _ _ (fun p hp => by have := hlo p (by omega); omega), ?_, fun c hc => ?_, ?_, lc_ea (lc_ea ia _ _ (by omega) (by omega) (by omega)) _ _ (by omega) (by omega) (by omega), lc_eb (lc_eb ib _ _ (by omega)) _ _ (by omega), ic⟩, lc_mf_I (lc_mf_I hmf (by omega) _ _) (by omega) _ _⟩
  · have q7 := lc_e7 i7 (a := lc_kl n M a) (σ 2 a) (nI b) (fun p hp c hc s hs => lc_kne kk.2.2.2.1 (lc_memRc h hp hc hs) (by decide))
    exact lc_s7 (lc_e7 q7 (a := lc_kd n M a) 1 (nI (σ 2 a + 1)) (fun p hp c hc s hs => lc_kne (M := M) kk.1 (lc_memRc h hp hc hs) (by decide))) rfl rfl (fun f f1 f2 => funext fun j => by rw [mm_u, if_neg (by omega), mm_u, if_neg (by omega)])
  · have hc : c < σ 3 0 := hc
    show mm_I (mm_sI (mm_sI M (lc_kl n M a) (σ 2 a) (nI b)) (lc_kd n M a) 1 (nI (σ 2 a + 1))) (lc_kd n M c) 1 = nI (mm_u (mm_u σ 1 (4 * a + σ 2 a) b) 2 a (σ 2 a + 1) 2 c) ∧ ∀ j, j < mm_u (mm_u σ 1 (4 * a + σ 2 a) b) 2 a (σ 2 a + 1) 2 c → mm_I (mm_sI (mm_sI M (lc_kl n M a) (σ 2 a) (nI b)) (lc_kd n M a) 1 (nI (σ 2 a + 1))) (lc_kl n M c) j = nI (mm_u (mm_u σ 1 (4 * a + σ 2 a) b) 2 a (σ 2 a + 1) 1 (4 * c + j))
    have kc := hK.2.2.2.2.2.1 c hc
    have n1 : lc_kl n M c ≠ lc_kd n M a := lc_kne kc.2.2.2.1 kk.1 (by decide)
    have n2 : lc_kd n M c ≠ lc_kl n M a := lc_kne kc.1 kk.2.2.2.1 (by decide)
    have e2 : mm_u (mm_u σ 1 (4 * a + σ 2 a) b) 2 a (σ 2 a + 1) 2 c = if c = a then σ 2 a + 1 else σ 2 c := by
      rw [mm_u]
      by_cases e : c = a
      · rw [if_pos ⟨rfl, e⟩, if_pos e]
      · rw [if_neg (fun z => e z.2), if_neg e, mm_u, if_neg (by omega)]
    have e1 : ∀ q, mm_u (mm_u σ 1 (4 * a + σ 2 a) b) 2 a (σ 2 a + 1) 1 q = if q = 4 * a + σ 2 a then b else σ 1 q := fun q => by
      rw [mm_u, if_neg (by omega), mm_u]
      by_cases e : q = 4 * a + σ 2 a
      · rw [if_pos ⟨rfl, e⟩, if_pos e]
      · rw [if_neg (fun z => e z.2), if_neg e]
    have c4 := (h1.2.2 c hc).1
    rw [e2]
    by_cases e : c = a
    · subst e
      rw [if_pos rfl]
      refine ⟨by rw [mm_II, if_pos ⟨rfl, rfl⟩], fun j hj => ?_⟩
      rw [mm_II, if_neg (fun z => n1 z.1), mm_II, e1]
      by_cases ej : j = σ 2 c
      · rw [if_pos ⟨rfl, ej⟩, if_pos (by omega)]
      · rw [if_neg (fun z => ej z.2), if_neg (by omega)]
        exact (i8 c hc).2 j (by omega)
    · rw [if_neg e]
      have d1 : lc_kd n M c ≠ lc_kd n M a := fun z => e ((dd c hc a ha).1 z)
      have d2 : lc_kl n M c ≠ lc_kl n M a := fun z => e ((dd c hc a ha).2 z)
      refine ⟨by rw [mm_II, if_neg (fun z => d1 z.1), mm_II, if_neg (fun z => n2 z.1)]; exact (i8 c hc).1, fun j hj => ?_⟩
      rw [mm_II, if_neg (fun z => n1 z.1), mm_II, if_neg (fun z => d2 z.1), e1, if_neg (by omega)]
      exact (i8 c hc).2 j hj
  · have q9 := lc_e9 i9 (a := lc_kl n M a) (σ 2 a) (nI b) (fun i hi => ⟨lc_kne kk.2.2.2.1 (hK.2.2.2.2.2.2.2 i hi).1 (by decide), lc_kne kk.2.2.2.1 (hK.2.2.2.2.2.2.2 i hi).2.2.2.1 (by decide)⟩)
    exact lc_s9 (lc_e9 q9 (a := lc_kd n M a) 1 (nI (σ 2 a + 1)) (fun i hi => ⟨lc_kne (M := M) kk.1 (hK.2.2.2.2.2.2.2 i hi).1 (by decide), lc_kne (M := M) kk.1 (hK.2.2.2.2.2.2.2 i hi).2.2.2.1 (by decide)⟩)) rfl (fun f f1 f2 => funext fun j => by rw [mm_u, if_neg (by omega), mm_u, if_neg (by omega)])
theorem ca_lean (hM : ls_M n σ M M) (hc : lc n σ M M) (hG : ls_G k σ) (x y : Int32) : ls_cc n k M (fun M => f_X9_lean M (some n) x y) (fun M => f_X10_lean M (some (n + 31)) x y) := by
  have O1 := hG.1
  have h120 := O1.1
  have icx := ls_isCard hM x
  have icy := ls_isCard hM y
  by_cases hx : 0 ≤ x ∧ x < nI (σ 3 0)
  · by_cases hy : 0 ≤ y ∧ y < nI (σ 3 0)
    · obtain ⟨a, ha, rfl⟩ := pe_arg (by omega) hx.1 hx.2
      obtain ⟨b, hb, rfl⟩ := pe_arg (by omega) hy.1 hy.2
      rw [if_pos hx] at icx
      rw [if_pos hy] at icy
      have kk := hc.1.2.2.2.2.2.1 a ha
      have X : ∀ {r}, f_X9_lean_24 M (some n) (nI a) (nI b) (some (lc_kd n M a)) = r → f_X9_lean M (some n) (nI a) (nI b) = r := fun q => bx (lc_r0 hc 1 3 (by decide)) (bx (pe_rc (lc_kdk hc)) (bx (lc_cardAt hc h120 ha) (iff_ (fun q => nomatch q) (bx (lc_r0 hc 1 3 (by decide)) (bx (pe_rc (lc_kdk hc)) (bx (lc_cardAt hc h120 hb) (iff_ (fun q => nomatch q) q)))))))
      have Y : ∀ {M : mm_M}, ls_M n σ M M → ∀ {r}, f_X10_lean_16 M (some (n + 31)) (nI a) (nI b) = r → f_X10_lean M (some (n + 31)) (nI a) (nI b) = r := fun hM _ q => by
        have icx := ls_isCard hM (nI a)
        have icy := ls_isCard hM (nI b)
        rw [if_pos hx] at icx
        rw [if_pos hy] at icy
        exact bx (ls_rc hM) (bx icx (iff_ ne10 (bx (ls_rc hM) (bx icy (iff_ ne10 q)))))
      by_cases hab : a = b
      · exact ⟨-1, M, M, X (ift (by rw [hab]) rfl), Y hM (ift (by rw [hab]) rfl), ls_no hM hc hG⟩
      · have hne : ¬ nI a = nI b := fun q => hab ((nI_eq (by omega) (by omega)).mp q)
        have hlo := cl_leansOn hc O1 ha hb
        have hl4 := (O1.2.2 a ha).1
        by_cases hf : ∃ j, j < σ 2 a ∧ σ 1 (4 * a + j) = b
        · rw [if_pos hf] at hlo
          refine ⟨-1, M, M, X (iff_ hne (bx (pe_rc kk.1) (bx hlo (iff_ ne10 rfl)))), Y hM (iff_ hne ?_), ls_no hM hc hG⟩
          obtain ⟨r, hr, rfl⟩ := pe_loop (body := fun x : Int32 => f_X10_lean_25 M (some (n + 31)) (nI a) (nI b) x) (x := 0) (fun i x => x = nI i ∧ ∀ j, j < i → σ 1 (4 * a + j) ≠ b) (fun r => r = (-1, M)) (σ 2 a) ⟨rfl, fun j hj => absurd hj (Nat.not_lt_zero j)⟩ (by
            rintro i x hi ⟨rfl, hn⟩
            by_cases e : i = σ 2 a
            · subst e
              obtain ⟨j, hj, q⟩ := hf
              exact absurd q (hn j hj)
            · have hi2 : i < σ 2 a := by omega
              have ht := (O1.2.2 a ha).2 i hi2
              have Z : ∀ {r}, (if nI (σ 1 (4 * a + i)) = nI b then mm_mp (f_X10_lean_49 M) else f_X10_lean_51 M (some (n + 31)) (nI a) (nI b) (nI i)) = r → f_X10_lean_25 M (some (n + 31)) (nI a) (nI b) (nI i) = r := fun q => bx (ls_fR hM 2 (by decide)) (bx (ls_aI hM 2 a (by decide) (show a < 120 by omega)) (iff_ (show ¬ nI (σ 2 a) ≤ nI i from nI_ge hi2 (by omega)) (bx (ls_fR hM 1 (by decide)) (bx (a := nI (σ 1 (4 * a + i))) (by rw [ls_ix4]; exact ls_aI hM 1 _ (by decide) (show 4 * a + i < 480 by omega)) q))))
              by_cases eb : σ 1 (4 * a + i) = b
              · exact Or.inr ⟨_, Z (ift (by rw [eb]) (mpx rfl)), rfl⟩
              · refine Or.inl ⟨nI (i + 1), Z (iff_ (fun q => eb ((nI_eq (by omega) (by omega)).mp q)) ?_), ⟨rfl, fun j hj => ?_⟩, hi2⟩
                · show some (Sum.inl (nI i + 1)) = _
                  rw [nI_1]
                · by_cases e2 : j = i
                  · rw [e2]; exact eb
                  · exact hn j (by omega))
          exact hr
        · rw [if_neg hf] at hlo
          obtain ⟨r, MA, eA, lA, sA, rA⟩ := cl_leadsTo hc O1 hb ha
          have loop : ∀ {M : mm_M}, ls_M n σ M M → ∀ {r}, f_X10_lean_57 M (some (n + 31)) (nI a) (nI b) = some r → f_X10_lean_16 M (some (n + 31)) (nI a) (nI b) = some r := fun {M} hM {r} q => iff_ hne (pe_for (body := fun x : Int32 => f_X10_lean_25 M (some (n + 31)) (nI a) (nI b) x) (fun i => nI i) (σ 2 a) (fun i hi => by
            have ht := (O1.2.2 a ha).2 i hi
            refine bx (ls_fR hM 2 (by decide)) (bx (ls_aI hM 2 a (by decide) (show a < 120 by omega)) (iff_ (show ¬ nI (σ 2 a) ≤ nI i from nI_ge hi (by omega)) (bx (ls_fR hM 1 (by decide)) (bx (a := nI (σ 1 (4 * a + i))) (by rw [ls_ix4]; exact ls_aI hM 1 _ (by decide) (show 4 * a + i < 480 by omega)) (iff_ (fun q => hf ⟨i, hi, (nI_eq (by omega) (by omega)).mp q⟩) ?_)))))
            show some (Sum.inl (nI i + 1)) = _
            rw [nI_1]) (bx (ls_fR hM 2 (by decide)) (bx (ls_aI hM 2 a (by decide) (show a < 120 by omega)) (ift (show nI (σ 2 a) ≤ nI (σ 2 a) from nI_le (Nat.le_refl _) (by omega)) (mpx q)))))
          have XA : ∀ {q}, (if r = 0 then f_X9_lean_54 MA (nI b) (some (lc_kd n M a)) else f_X9_lean_51 MA) = q → f_X9_lean M (some n) (nI a) (nI b) = q := fun q => X (iff_ hne (bx (pe_rc kk.1) (bx hlo (ift rfl (bx (lc_r0 hc 1 3 (by decide)) (bx (pe_rc (lc_kdk hc)) (b2x eA q)))))))
          rcases rA with ⟨rfl, hr⟩ | ⟨rfl, hr⟩
          · have hMA := ls_M_mv hM lA.2.2
            obtain ⟨r2, MB, τ, eB, hB, heB, rB⟩ := ls_leads hMA O1 hb ha
            have : r2 = 1 := by
              rcases rB with ⟨q, -⟩ | ⟨-, q⟩
              · exact q
              · exact absurd hr q
            subst this
            exact ⟨-3, MA, MB, XA (iff_ ne10 rfl), Y hMA (loop hMA (bx (ls_rc hMA) (b2x eB (iff_ ne10 rfl)))), ls_fin hB (lc_e0 lA heB) (ls_G_e hG heB)⟩
          · have kkA := lA.1.2.2.2.2.2.1 a ha
            have i8A := lA.2.1.2.2.2.2.2.2.2.1 a ha
            have XB : ∀ {q r}, f_X0_addLean MA (some (lc_kd n MA a)) (nI b) = some (q, r) → f_X9_lean M (some n) (nI a) (nI b) = some (q, r) := fun q => by
              rw [lc_sk_kd sA] at q
              exact XA (ift rfl (bx (pe_rc (by rw [← lc_sk_kd sA]; exact kkA.1)) (b2x q rfl)))
            by_cases h44 : σ 2 a = 4
            · have hMA := ls_M_mv hM lA.2.2
              obtain ⟨r2, MB, τ, eB, hB, heB, rB⟩ := ls_leads hMA O1 hb ha
              have : r2 = 0 := by
                rcases rB with ⟨-, q⟩ | ⟨q, -⟩
                · exact absurd q hr
                · exact q
              subst this
              have e2 : τ 2 a = σ 2 a := by rw [heB 2 (by omega)]
              exact ⟨-2, MA, MB, XB (bx (pfI kkA.1 i8A.1) (bx (pfR kkA.1 kkA.2.2.1) (bx (pe_ln kkA.2.2.2.1 (by omega)) (iff_ (nI_nlt (a := σ 2 a) (b := 4) (by omega) (by omega)) rfl)))), Y hMA (loop hMA (bx (ls_rc hMA) (b2x eB (ift rfl (bx (ls_fR hB 2 (by decide)) (bx (ls_aI hB 2 a (by decide) (show a < 120 by omega)) (ift (show nI (τ 2 a) = nI 4 by rw [e2, h44]) rfl))))))), ls_fin hB (lc_e0 lA heB) (ls_G_e hG heB)⟩
            · have wl := lc_wlean lA O1 ha (by omega) b
              have hMC := ls_M_mv hM wl.2.2
              have kd2 : mm_k (mm_sI MA (lc_kl n MA a) (σ 2 a) (nI b)) (lc_kd n MA a) = some (1, 0) := kkA.1
              have kdne : lc_kd n MA a ≠ lc_kl n MA a := lc_kne kkA.1 kkA.2.2.2.1 (by decide)
              have cls : f_X0_addLean MA (some (lc_kd n MA a)) (nI b) = some (nI (σ 2 a + 1), mm_sI (mm_sI MA (lc_kl n MA a) (σ 2 a) (nI b)) (lc_kd n MA a) 1 (nI (σ 2 a + 1))) := bx (pfI kkA.1 i8A.1) (bx (pfR kkA.1 kkA.2.2.1) (bx (pe_ln kkA.2.2.2.1 (by omega)) (ift (nI_lt (a := σ 2 a) (b := 4) (by omega) (by omega)) (bx (pfR kkA.1 kkA.2.2.1) (bx (pfI kkA.1 i8A.1) (bx (pe_tI _ kkA.2.2.2.1 (show σ 2 a < 4 by omega) (by omega)) (bx (pfI kd2 (v := nI (σ 2 a)) (by rw [mm_II, if_neg (fun z => kdne z.1)]; exact i8A.1)) (bx (a := mm_sI (mm_sI MA (lc_kl n MA a) (σ 2 a) (nI b)) (lc_kd n MA a) 1 (nI (σ 2 a + 1))) (by rw [nI_1]; exact pe_pI 1 _ kd2) (bx (pfI (v := nI (σ 2 a + 1)) kd2 (by rw [mm_II, if_pos ⟨rfl, rfl⟩])) rfl)))))))))
              generalize mm_sI (mm_sI MA (lc_kl n MA a) (σ 2 a) (nI b)) (lc_kd n MA a) 1 (nI (σ 2 a + 1)) = MC at cls wl hMC
              obtain ⟨r2, MB, τ, eB, hB, heB, rB⟩ := ls_leads hMC O1 hb ha
              have : r2 = 0 := by
                rcases rB with ⟨-, q⟩ | ⟨q, -⟩
                · exact absurd q hr
                · exact q
              subst this
              have e2 : τ 2 a = σ 2 a := by rw [heB 2 (by omega)]
              obtain ⟨MD, eD, hD⟩ := ls_tI hB 1 (4 * a + σ 2 a) b (by decide) rfl (show 4 * a + σ 2 a < 480 by omega)
              obtain ⟨ME, eE, hE⟩ := ls_tI hD 2 a (σ 2 a + 1) (by decide) rfl (show a < 120 by omega)
              have he2 : ls_e (mm_u (mm_u σ 1 (4 * a + σ 2 a) b) 2 a (σ 2 a + 1)) (mm_u (mm_u τ 1 (4 * a + σ 2 a) b) 2 a (σ 2 a + 1)) := fun f hf => by
                funext j
                unfold mm_u
                rw [heB f hf]
              refine ⟨nI (σ 2 a + 1), MC, ME, XB cls, Y hMC (loop hMC (bx (ls_rc hMC) (b2x eB (ift rfl (bx (ls_fR hB 2 (by decide)) (bx (ls_aI hB 2 a (by decide) (show a < 120 by omega)) (iff_ (show ¬ nI (τ 2 a) = nI 4 by rw [e2]; exact fun q => h44 ((nI_eq (by omega) (by omega)).mp q)) (bx (ls_fR hB 1 (by decide)) (bx (ls_fR hB 2 (by decide)) (bx (a := nI (σ 2 a)) (by rw [← e2]; exact ls_aI hB 2 a (by decide) (show a < 120 by omega)) (bx (a := MD) (by rw [ls_ix4]; exact eD) (bx (ls_fR hD 2 (by decide)) (bx (a := nI (σ 2 a)) (by rw [← e2]; exact ls_aI hD 2 a (by decide) (show a < 120 by omega)) (bx (a := ME) (by rw [nI_1]; exact eE) (bx (ls_fR hE 2 (by decide)) (bx (a := nI (σ 2 a + 1)) ?_ rfl)))))))))))))))), ls_fin hE (lc_e0 wl he2) (ls_G_e ?_ he2)⟩
              · rw [show nI (σ 2 a + 1) = ls_en 2 (mm_u (mm_u τ 1 (4 * a + σ 2 a) b) 2 a (σ 2 a + 1) 2 a) by rw [mm_u, if_pos ⟨rfl, rfl⟩]; rfl]
                exact ls_aI hE 2 a (by decide) (show a < 120 by omega)
              · obtain ⟨g1, g2, g3, g4, g5, g6, g7, g8⟩ := hG
                refine ⟨⟨g1.1, g1.2.1, fun c hcc => ?_⟩, g2, g3, g4, g5, g6, g7, g8⟩
                have hcc : c < σ 3 0 := hcc
                have gc := g1.2.2 c hcc
                have e2' : mm_u (mm_u σ 1 (4 * a + σ 2 a) b) 2 a (σ 2 a + 1) 2 c = if c = a then σ 2 a + 1 else σ 2 c := by
                  rw [mm_u]
                  by_cases e : c = a
                  · rw [if_pos ⟨rfl, e⟩, if_pos e]
                  · rw [if_neg (fun z => e z.2), if_neg e, mm_u, if_neg (by omega)]
                rw [e2']
                refine ⟨by split <;> omega, fun j hj => ?_⟩
                show mm_u (mm_u σ 1 (4 * a + σ 2 a) b) 2 a (σ 2 a + 1) 1 (4 * c + j) < σ 3 0
                rw [mm_u, if_neg (by omega), mm_u]
                split
                · exact hb
                · rename_i hne2
                  refine gc.2 j ?_
                  by_cases e : c = a
                  · subst e
                    rw [if_pos rfl] at hj
                    rcases Nat.lt_or_ge j (σ 2 c) with h | h
                    · exact h
                    · exact absurd ⟨rfl, by omega⟩ hne2
                  · rw [if_neg e] at hj
                    exact hj
    · obtain ⟨a, ha, rfl⟩ := pe_arg (by omega) hx.1 hx.2
      rw [if_pos hx] at icx
      rw [if_neg hy] at icy
      exact ⟨-1, M, M, bx (lc_r0 hc 1 3 (by decide)) (bx (pe_rc (lc_kdk hc)) (bx (lc_cardAt hc h120 ha) (iff_ (fun q => nomatch q) (bx (lc_r0 hc 1 3 (by decide)) (bx (pe_rc (lc_kdk hc)) (bx (lc_cardOut hc hy) (ift rfl rfl))))))), bx (ls_rc hM) (bx icx (iff_ ne10 (bx (ls_rc hM) (bx icy (ift rfl rfl))))), ls_no hM hc hG⟩
  · rw [if_neg hx] at icx
    exact ⟨-1, M, M, bx (lc_r0 hc 1 3 (by decide)) (bx (pe_rc (lc_kdk hc)) (bx (lc_cardOut hc hx) (ift rfl rfl))), bx (ls_rc hM) (bx icx (ift rfl rfl)), ls_no hM hc hG⟩
end
