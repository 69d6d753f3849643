section
variable {n k : Nat} {σ τ : ls_S} {B M M1 : mm_M}
theorem lc_isOfKind {a : Nat} {v : ls_V} (h : lc_at M a v) (hc : lc_cv n M) {on : Nat} (hk : ls_ok v on) (hon : on ≤ 110000) {κ : Nat} (hκ : κ = 1 ∨ κ = 2 ∨ κ = 3) (w : Int32) (hw : w = nI κ) : f_X8_isOfKind M (some a) w (nI on) (some (n + 1)) = some (nI (ls_ki κ on v)) := by
  obtain ⟨k1, k2, k3, k4, k5, k6, k7⟩ := id hk
  rcases hκ with rfl | rfl | rfl
  · have e := lc_isDue h hc hk hon
    by_cases hd : ls_due v on
    · rw [if_pos hd] at e
      rw [show ls_ki 1 on v = 1 by unfold ls_ki; rw [if_pos rfl, if_pos hd]]
      exact ift (show w = 1 from hw) (bx (pe_rc h.1) (bx e (gz (s := 1) (Or.inr rfl) rfl)))
    · rw [if_neg hd] at e
      rw [show ls_ki 1 on v = 0 by unfold ls_ki; rw [if_pos rfl, if_neg hd]]
      exact ift (show w = 1 from hw) (bx (pe_rc h.1) (bx e (gz (s := 0) (Or.inl rfl) rfl)))
  · have e := lc_isFresh h (by omega)
    have n1 : ¬ w = 1 := by rw [hw]; decide
    by_cases hd : v.1 = 0
    · rw [if_pos hd] at e
      rw [show ls_ki 2 on v = 1 by unfold ls_ki; rw [if_neg (by omega), if_pos rfl, if_pos hd]]
      exact iff_ n1 (ift (show w = 2 from hw) (bx (pe_rc h.1) (bx e (gz (s := 1) (Or.inr rfl) rfl))))
    · rw [if_neg hd] at e
      rw [show ls_ki 2 on v = 0 by unfold ls_ki; rw [if_neg (by omega), if_pos rfl, if_neg hd]]
      exact iff_ n1 (ift (show w = 2 from hw) (bx (pe_rc h.1) (bx e (gz (s := 0) (Or.inl rfl) rfl))))
  · have e := lc_isLeech h (by omega)
    have n1 : ¬ w = 1 := by rw [hw]; decide
    have n2 : ¬ w = 2 := by rw [hw]; decide
    by_cases hd : v.2.2.2.2 < 8
    · rw [if_pos hd] at e
      rw [show ls_ki 3 on v = 0 by unfold ls_ki; rw [if_neg (by omega), if_neg (by omega), if_pos hd]]
      exact iff_ n1 (iff_ n2 (bx (pe_rc h.1) (bx e (gz (s := 0) (Or.inl rfl) rfl))))
    · rw [if_neg hd] at e
      rw [show ls_ki 3 on v = 1 by unfold ls_ki; rw [if_neg (by omega), if_neg (by omega), if_neg hd]]
      exact iff_ n1 (iff_ n2 (bx (pe_rc h.1) (bx e (gz (s := 1) (Or.inr rfl) rfl))))
theorem ls_ki_b (κ on : Nat) (v : ls_V) : ls_ki κ on v = 0 ∨ ls_ki κ on v = 1 := by
  unfold ls_ki
  split
  · split
    · exact Or.inr rfl
    · exact Or.inl rfl
  · split
    · split
      · exact Or.inr rfl
      · exact Or.inl rfl
    · split
      · exact Or.inl rfl
      · exact Or.inr rfl
/-- how many sides of a card are of a kind -/
def ls_kc (σ : ls_S) (p κ c : Nat) : Nat := ls_sm (fun s => ls_ki κ (σ 8 p) (ls_at σ (480 * p + 4 * c + s))) (σ 0 c)
theorem lc_countSides5 (h : lc n σ B M) (h1 : ls_O1 σ) {p c : Nat} (hp : p < 5) (hc : c < σ 3 0) (hon : σ 8 p ≤ 110000) (hk : ls_okc σ p c (σ 8 p)) {κ : Nat} (hκ : κ = 1 ∨ κ = 2 ∨ κ = 3) : f_X5_countSides M (some (lc_hd n M p c)) (nI κ) (nI (σ 8 p)) (some (n + 1)) = some (nI (ls_kc σ p κ c)) := by
  have h4 := (h1.2.1 c hc).2
  refine pe_for (body := fun x : Int32 × Int32 => f_X5_countSides_6 M (some (lc_hd n M p c)) (nI κ) (nI (σ 8 p)) (some (n + 1)) x.1 x.2) (fun i => (nI (ls_sm (fun s => ls_ki κ (σ 8 p) (ls_at σ (480 * p + 4 * c + s))) i), nI i)) (σ 0 c) (fun i hi => ?_) ?_
  · have e := lc_isOfKind (lc_at_of h hp hc hi) (lc_cv_of h) (hk.1 i hi) hon hκ (nI κ) rfl
    have hS : ls_sm (fun s => ls_ki κ (σ 8 p) (ls_at σ (480 * p + 4 * c + s))) (i + 1) = ls_sm (fun s => ls_ki κ (σ 8 p) (ls_at σ (480 * p + 4 * c + s))) i + ls_ki κ (σ 8 p) (ls_at σ (480 * p + 4 * c + i)) := rfl
    have hn : ∀ u : Int32, f_X5_countSides_35 M (some (lc_hd n M p c)) (nI κ) (nI (σ 8 p)) (some (n + 1)) u (nI i) = some (.inl (u, nI (i + 1))) := fun u => by
      show some (Sum.inl (u, nI i + 1)) = _
      rw [nI_1]
    refine bx (lc_hR h hp hc) (bx (lc_hl h hp hc) (iff_ (nI_ge hi (by omega)) (bx (lc_hR h hp hc) (bx (lc_ha h hp hc hi h4) (bx (lc_hrc h hp hc hi) (bx e ?_))))))
    show _ = some (Sum.inl (nI (ls_sm (fun s => ls_ki κ (σ 8 p) (ls_at σ (480 * p + 4 * c + s))) (i + 1)), nI (i + 1)))
    rw [hS]
    rcases ls_ki_b κ (σ 8 p) (ls_at σ (480 * p + 4 * c + i)) with q | q
    · rw [q]
      exact ift (by decide) (hn _)
    · rw [q]
      exact iff_ (by decide) ((hn (nI (ls_sm (fun s => ls_ki κ (σ 8 p) (ls_at σ (480 * p + 4 * c + s))) i) + 1)).trans (by rw [nI_1]))
  · exact bx (lc_hR h hp hc) (bx (lc_hl h hp hc) (ift (nI_le (Nat.le_refl _) (by omega)) (mpx rfl)))
theorem lc_countSides6 (h : lc n σ B M) (h1 : ls_O1 σ) {p : Nat} (hp : p < 4) (hon : σ 8 p ≤ 110000) (hk : ∀ c, c < σ 3 0 → ls_okc σ p c (σ 8 p)) {κ : Nat} (hκ : κ = 1 ∨ κ = 2 ∨ κ = 3) : f_X6_countSides M (some (n + lc_lo p)) (nI κ) (some (n + 1)) = some (nI (ls_sm (ls_kc σ p κ) (σ 3 0))) := by
  have h120 := h1.1
  have np : p < 5 := by omega
  have i5 := h.2.1.2.2.2.2.1 p hp
  refine pe_for (body := fun x : Int32 × Int32 => f_X6_countSides_5 M (some (n + lc_lo p)) (nI κ) (some (n + 1)) x.1 x.2) (fun i => (nI (ls_sm (ls_kc σ p κ) i), nI i)) (σ 3 0) (fun i hi => ?_) ?_
  · refine bx (lc_lR h np) (bx (lc_lrc h np) (bx (lc_lsz h np) (iff_ (nI_ge hi (by omega)) (bx (lc_lR h np) (bx (lc_lrc h np) (bx (lc_lget h h120 np hi) (bx (lc_hcc h np hi) (bx (pfI (lc_kla h np) i5.1) (bx (lc_hrcd h np hi) (bx (lc_countSides5 h h1 np hi hon (hk i hi) hκ) ?_))))))))))
    show some (Sum.inl (nI (ls_sm (ls_kc σ p κ) i) + nI (ls_kc σ p κ i), nI i + 1)) = _
    rw [nI_1, nI_add]
    rfl
  · exact bx (lc_lR h np) (bx (lc_lrc h np) (bx (lc_lsz h np) (ift (nI_le (Nat.le_refl _) (by omega)) (mpx rfl))))
/-- one if a card is KNOWN -/
def ls_kk (σ : ls_S) (p c : Nat) : Nat := if ls_knc σ p c then 1 else 0
theorem lc_countKnown (h : lc n σ B M) (h1 : ls_O1 σ) {p : Nat} (hp : p < 4) (hon : σ 8 p ≤ 110000) (hk : ∀ c, c < σ 3 0 → ls_okc σ p c (σ 8 p)) : f_X6_countKnown M (some (n + lc_lo p)) (some (n + 1)) = some (nI (ls_sm (ls_kk σ p) (σ 3 0))) := by
  have h120 := h1.1
  have np : p < 5 := by omega
  have i5 := h.2.1.2.2.2.2.1 p hp
  refine pe_for (body := fun x : Int32 × Int32 => f_X6_countKnown_4 M (some (n + lc_lo p)) (some (n + 1)) x.1 x.2) (fun i => (nI (ls_sm (ls_kk σ p) i), nI i)) (σ 3 0) (fun i hi => ?_) ?_
  · have fk := lc_hKnown h h1 np hi hon (hk i hi)
    have hS : ls_sm (ls_kk σ p) (i + 1) = ls_sm (ls_kk σ p) i + ls_kk σ p i := rfl
    have hn : ∀ u : Int32, f_X6_countKnown_40 M (some (n + lc_lo p)) (some (n + 1)) u (nI i) = some (.inl (u, nI (i + 1))) := fun u => by
      show some (Sum.inl (u, nI i + 1)) = _
      rw [nI_1]
    refine bx (lc_lR h np) (bx (lc_lrc h np) (bx (lc_lsz h np) (iff_ (nI_ge hi (by omega)) (bx (lc_lR h np) (bx (lc_lrc h np) (bx (lc_lget h h120 np hi) (bx (lc_hcc h np hi) (bx (pfI (lc_kla h np) i5.1) (bx (lc_hrcd h np hi) (bx fk ?_))))))))))
    show _ = some (Sum.inl (nI (ls_sm (ls_kk σ p) (i + 1)), nI (i + 1)))
    rw [hS]
    by_cases hkn : ∀ s, s < σ 0 i → ls_kn (ls_at σ (480 * p + 4 * i + s)) (σ 8 p)
    · rw [show ls_kk σ p i = 1 from if_pos hkn]
      exact iff_ (by rw [if_pos hkn]; decide) ((hn (nI (ls_sm (ls_kk σ p) i) + 1)).trans (by rw [nI_1]))
    · rw [show ls_kk σ p i = 0 from if_neg hkn]
      exact ift (if_neg hkn) (hn _)
  · exact bx (lc_lR h np) (bx (lc_lrc h np) (bx (lc_lsz h np) (ift (nI_le (Nat.le_refl _) (by omega)) (mpx rfl))))
-- the model's counts
theorem ls_kc_v (hv : ls_v σ τ) (p κ c : Nat) : ls_kc τ p κ c = ls_kc σ p κ c := by
  unfold ls_kc
  rw [hv 8 (ls_nx_of (by omega) (by omega)), hv 0 (ls_nx_of (by omega) (by omega)), show ls_at τ = ls_at σ from funext fun q => ls_v_at hv q]
theorem ls_sidesThat (h : ls_M n σ B M) (hG : ls_G k σ) {p : Nat} (hp : p < 4) {κ : Nat} (hκ : κ = 1 ∨ κ = 2 ∨ κ = 3) : ∃ M1 τ, f_X10_sidesThat M (some (n + 31)) (nI p) (nI κ) = some (nI (ls_sm (ls_kc σ p κ) (σ 3 0)), M1) ∧ ls_M n τ B M1 ∧ ls_v σ τ := by
  have h120 := hG.1.1
  have t5 := hG.2.1.2.2.2.2 p hp
  obtain ⟨w, hw⟩ : ∃ w, w = nI κ := ⟨_, rfl⟩
  rw [← hw]
  obtain ⟨r, hr, M1, τ, rfl, h1, v1⟩ := pe_cnt (body := fun x : mm_M × Int32 × Int32 => f_X10_sidesThat_5 x.1 (some (n + 31)) (nI p) w x.2.1 x.2.2) (x := (M, 0, 0)) (fun i x => ∃ M1 τ, x = (M1, nI (ls_sm (ls_kc σ p κ) i), nI i) ∧ ls_M n τ B M1 ∧ ls_v σ τ) (fun r => ∃ M1 τ, r = (nI (ls_sm (ls_kc σ p κ) (σ 3 0)), M1) ∧ ls_M n τ B M1 ∧ ls_v σ τ) (σ 3 0) ⟨M, σ, rfl, h, ls_v_rf σ⟩ (by
      rintro i x hi ⟨M1, τ, rfl, h1, v1⟩
      have e3 : τ 3 0 = σ 3 0 := congrFun (v1 3 (ls_nx_of (by omega) (by omega))) 0
      have h4 := (hG.1.2.1 i hi).2
      obtain ⟨y, hy, M2, τ2, rfl, h2, v2⟩ := pe_cnt (body := fun x : mm_M × Int32 × Int32 => f_X10_sidesThat_17 x.1 (some (n + 31)) (nI p) w x.2.1 (nI i) x.2.2) (x := (M1, nI (ls_sm (ls_kc σ p κ) i), 0)) (fun j x => ∃ M2 τ, x = (M2, nI (ls_sm (ls_kc σ p κ) i + ls_sm (fun s => ls_ki κ (σ 8 p) (ls_at σ (480 * p + 4 * i + s))) j), nI j) ∧ ls_M n τ B M2 ∧ ls_v σ τ) (fun r => ∃ M2 τ, r = .inl (M2, nI (ls_sm (ls_kc σ p κ) (i + 1)), nI (i + 1)) ∧ ls_M n τ B M2 ∧ ls_v σ τ) (σ 0 i) ⟨M1, τ, rfl, h1, v1⟩ (by
          rintro j x hj ⟨M2, τ, rfl, h2, v2⟩
          have e0 : τ 0 i = σ 0 i := congrFun (v2 0 (ls_nx_of (by omega) (by omega))) i
          obtain ⟨ok1, ok2, ok3⟩ := ls_G_ok hG hp hi hj
          obtain ⟨M3, τ3, e3, h3, v3, c3⟩ := ls_take h2 ok3
          rw [ls_v_at v2] at c3
          have v4 := ls_v_tr v2 v3
          have e8 : τ3 8 p = σ 8 p := congrFun (v4 8 (ls_nx_of (by omega) (by omega))) p
          refine ⟨(M3, nI (ls_sm (ls_kc σ p κ) i + ls_sm (fun s => ls_ki κ (σ 8 p) (ls_at σ (480 * p + 4 * i + s))) (j + 1)), nI (j + 1)), ?_, M3, τ3, rfl, h3, v4⟩
          have hS : ls_sm (ls_kc σ p κ) i + ls_sm (fun s => ls_ki κ (σ 8 p) (ls_at σ (480 * p + 4 * i + s))) (j + 1) = ls_sm (ls_kc σ p κ) i + ls_sm (fun s => ls_ki κ (σ 8 p) (ls_at σ (480 * p + 4 * i + s))) j + ls_ki κ (σ 8 p) (ls_at σ (480 * p + 4 * i + j)) := (Nat.add_assoc _ _ _).symm
          rw [hS]
          have hn : ∀ q, f_X10_sidesThat_95 M3 (some (n + 31)) (nI p) w (nI i) (nI j) (nI (ls_sm (ls_kc σ p κ) i + ls_sm (fun s => ls_ki κ (σ 8 p) (ls_at σ (480 * p + 4 * i + s))) j)) (nI q) = some (.inl (M3, nI (ls_sm (ls_kc σ p κ) i + ls_sm (fun s => ls_ki κ (σ 8 p) (ls_at σ (480 * p + 4 * i + s))) j + q), nI (j + 1))) := fun q => by
            show some (Sum.inl (M3, nI (ls_sm (ls_kc σ p κ) i + ls_sm (fun s => ls_ki κ (σ 8 p) (ls_at σ (480 * p + 4 * i + s))) j) + nI q, nI j + 1)) = _
            rw [nI_1, nI_add]
          refine bx (ls_fR h2 0 (by decide)) (bx (ls_aI h2 0 i (by decide) (show i < 120 by omega)) (iff_ (show ¬ nI (τ 0 i) ≤ nI j by rw [e0]; exact nI_ge hj (by omega)) (bx (ls_rc h2) (bx (a := M3) (by rw [ls_ix]; exact e3) ?_))))
          generalize ls_at σ (480 * p + 4 * i + j) = v at *
          obtain ⟨s29, -, -, -, s33⟩ := ls_sc1 c3
          obtain ⟨k1, k2, k3, k4, k5, k6, k7⟩ := id ok1
          rcases hκ with rfl | rfl | rfl
          · have dm : f_X10_isDue M3 (some (n + 31)) (ls_en 8 (τ3 8 p)) = some (if ls_due v (σ 8 p) then 1 else 0) := by
              show f_X10_isDue M3 _ (nI (τ3 8 p)) = _
              rw [e8]; exact ls_isDue h3 c3 ok1 (by omega)
            by_cases hd : ls_due v (σ 8 p)
            · rw [if_pos hd] at dm
              rw [show ls_ki 1 (σ 8 p) v = 1 by unfold ls_ki; rw [if_pos rfl, if_pos hd]]
              exact ift (show w = 1 from hw) (bx (ls_fR h3 8 (by decide)) (bx (ls_aI h3 8 p (by decide) hp) (bx (ls_rc h3) (bx dm (iff_ ne10 (hn 1))))))
            · rw [if_neg hd] at dm
              rw [show ls_ki 1 (σ 8 p) v = 0 by unfold ls_ki; rw [if_pos rfl, if_neg hd]]
              exact ift (show w = 1 from hw) (bx (ls_fR h3 8 (by decide)) (bx (ls_aI h3 8 p (by decide) hp) (bx (ls_rc h3) (bx dm (ift rfl (hn 0))))))
          · have n1 : ¬ w = 1 := by rw [hw]; decide
            by_cases hd : v.1 = 0
            · rw [show ls_ki 2 (σ 8 p) v = 1 by unfold ls_ki; rw [if_neg (by omega), if_pos rfl, if_pos hd]]
              exact iff_ n1 (ift (show w = 2 from hw) (bx (ls_fI h3 29 (by decide)) (ift (show nI (τ3 29 0) = 0 by rw [s29, hd]; decide) (hn 1))))
            · rw [show ls_ki 2 (σ 8 p) v = 0 by unfold ls_ki; rw [if_neg (by omega), if_pos rfl, if_neg hd]]
              exact iff_ n1 (ift (show w = 2 from hw) (bx (ls_fI h3 29 (by decide)) (iff_ (show ¬ nI (τ3 29 0) = 0 by rw [s29]; exact nI_ne0 (by omega) (by omega)) (hn 0))))
          · have n1 : ¬ w = 1 := by rw [hw]; decide
            have n2 : ¬ w = 2 := by rw [hw]; decide
            have dm := ls_isLeech h3 (by omega)
            rw [s33] at dm
            by_cases hd : v.2.2.2.2 < 8
            · rw [if_pos hd] at dm
              rw [show ls_ki 3 (σ 8 p) v = 0 by unfold ls_ki; rw [if_neg (by omega), if_neg (by omega), if_pos hd]]
              exact iff_ n1 (iff_ n2 (bx (ls_rc h3) (bx dm (ift rfl (hn 0)))))
            · rw [if_neg hd] at dm
              rw [show ls_ki 3 (σ 8 p) v = 1 by unfold ls_ki; rw [if_neg (by omega), if_neg (by omega), if_neg hd]]
              exact iff_ n1 (iff_ n2 (bx (ls_rc h3) (bx dm (iff_ ne10 (hn 1)))))) (by
          rintro x ⟨M2, τ, rfl, h2, v2⟩
          have e0 : τ 0 i = σ 0 i := congrFun (v2 0 (ls_nx_of (by omega) (by omega))) i
          refine ⟨_, bx (ls_fR h2 0 (by decide)) (bx (ls_aI h2 0 i (by decide) (show i < 120 by omega)) (ift (show nI (τ 0 i) ≤ nI (σ 0 i) by rw [e0]; exact nI_le (Nat.le_refl _) (by omega)) (mpx rfl))), M2, τ, ?_, h2, v2⟩
          show (Sum.inl (M2, nI (ls_sm (ls_kc σ p κ) i + ls_kc σ p κ i), nI i + 1) : (mm_M × Int32 × Int32) ⊕ (Int32 × mm_M)) = _
          rw [nI_1]
          rfl)
      exact ⟨_, bx (ls_fI h1 3 (by decide)) (iff_ (show ¬ nI (τ 3 0) ≤ nI i by rw [e3]; exact nI_ge hi (by omega)) hy), M2, τ2, rfl, h2, v2⟩) (by
      rintro x ⟨M1, τ, rfl, h1, v1⟩
      have e3 : τ 3 0 = σ 3 0 := congrFun (v1 3 (ls_nx_of (by omega) (by omega))) 0
      exact ⟨_, bx (ls_fI h1 3 (by decide)) (ift (show nI (τ 3 0) ≤ nI (σ 3 0) by rw [e3]; exact nI_le (Nat.le_refl _) (by omega)) (mpx rfl)), M1, τ, rfl, h1, v1⟩)
  exact ⟨M1, τ, hr, h1, v1⟩
theorem ls_knc_v (hv : ls_v σ τ) (p c : Nat) : ls_knc τ p c ↔ ls_knc σ p c := by
  unfold ls_knc
  rw [hv 8 (ls_nx_of (by omega) (by omega)), hv 0 (ls_nx_of (by omega) (by omega)), show ls_at τ = ls_at σ from funext fun q => ls_v_at hv q]
theorem ca_pupil (hM : ls_M n σ M M) (hc : lc n σ M M) (hG : ls_G k σ) (x w : Int32) : ls_c1 n k M (fun M => f_X9_pupil M (some n) x w) (fun M => f_X10_pupil M (some (n + 31)) x w) := by
  have O1 := hG.1
  have h120 := O1.1
  rcases pe_pupil x with ⟨p, hp, rfl⟩ | hx
  · have np : p < 5 := by omega
    have kl := lc_kla hc np
    have t5 := hG.2.1.2.2.2.2 p hp
    have i5 := hc.2.1.2.2.2.2.1 p hp
    have X : ∀ {r}, f_X9_pupil_12 M (some n) w (some (n + lc_lo p)) = r → f_X9_pupil M (some n) (nI p) w = r := fun q => bx (pe_rc (lc_k0 hc)) (bx (lc_learnerAt hc hp) (iff_ (fun q => nomatch q) q))
    have okc : ∀ c, c < σ 3 0 → ls_okc σ p c (σ 8 p) := fun c h => ls_G_okc hG hp h
    by_cases hw : 0 ≤ w ∧ w ≤ 5
    · obtain ⟨j, hj, he⟩ := pe_argle (n := 5) (by omega) hw.1 hw.2
      have N : ∀ i, i ≤ 5 → i ≠ j → ¬ w = nI i := fun i hi hne e => hne ((nI_eq (by omega) (by omega)).mp (e.symm.trans he))
      have Y : ∀ {r}, f_X10_pupil_18 M (some (n + 31)) (nI p) w = r → f_X10_pupil M (some (n + 31)) (nI p) w = r := fun q => bx (ls_isPupil_in _ hp) (iff_ ne10 (bx (ls_within_in _ hw) (iff_ ne10 q)))
      have Y1 : 1 ≤ j → j ≤ 3 → ∃ M1 τ, f_X10_pupil M (some (n + 31)) (nI p) w = some (nI (ls_sm (ls_kc σ p j) (σ 3 0)), M1) ∧ ls_M n τ M M1 ∧ ls_v σ τ := fun h1 h3 => by
        obtain ⟨M1, τ, e, h, v⟩ := ls_sidesThat hM hG hp (κ := j) (by omega)
        rw [← he] at e
        exact ⟨M1, τ, Y (ift (by rw [he]; exact nI_le (b := 3) h3 (by omega)) (iff_ (by rw [he]; exact nI_nle (by omega) (by omega)) (bx (ls_rc hM) (b2x e rfl)))), h, v⟩
      have hj10 : j = 0 ∨ j = 1 ∨ j = 2 ∨ j = 3 ∨ j = 4 ∨ j = 5 := by omega
      rcases hj10 with rfl | rfl | rfl | rfl | rfl | rfl
      · obtain ⟨r, hr, M1, τ, rfl, h1, v1⟩ := pe_cnt (body := fun x : mm_M × Int32 × Int32 => f_X10_pupil_60 x.1 (some (n + 31)) (nI p) x.2.1 x.2.2) (x := (M, 0, 0)) (fun i x => ∃ M1 τ, x = (M1, nI (ls_sm (ls_kk σ p) i), nI i) ∧ ls_M n τ M M1 ∧ ls_v σ τ) (fun r => ∃ M1 τ, r = (nI (ls_sm (ls_kk σ p) (σ 3 0)), M1) ∧ ls_M n τ M M1 ∧ ls_v σ τ) (σ 3 0) ⟨M, σ, rfl, hM, ls_v_rf σ⟩ (by
            rintro i x hi ⟨M1, τ, rfl, h1, v1⟩
            have e3 : τ 3 0 = σ 3 0 := congrFun (v1 3 (ls_nx_of (by omega) (by omega))) 0
            have e8 : τ 8 p = σ 8 p := congrFun (v1 8 (ls_nx_of (by omega) (by omega))) p
            obtain ⟨M2, τ2, f2, h2, v2⟩ := ls_isKnown h1 (ls_v1 v1 O1) (ls_v3 v1 hG.2.2.1) (p := p) (c := i) hp (by rw [e3]; exact hi) (by omega)
            have hn : ∀ q, f_X10_pupil_85 M2 (some (n + 31)) (nI p) (nI i) (nI (ls_sm (ls_kk σ p) i)) (nI q) = some (.inl (M2, nI (ls_sm (ls_kk σ p) i + q), nI (i + 1))) := fun q => by
              show some (Sum.inl (M2, nI (ls_sm (ls_kk σ p) i) + nI q, nI i + 1)) = _
              rw [nI_1, nI_add]
            refine ⟨(M2, nI (ls_sm (ls_kk σ p) i + ls_kk σ p i), nI (i + 1)), bx (ls_fI h1 3 (by decide)) (iff_ (show ¬ nI (τ 3 0) ≤ nI i by rw [e3]; exact nI_ge hi (by omega)) ?_), M2, τ2, rfl, h2, ls_v_tr v1 v2⟩
            by_cases hkn : ls_knc σ p i
            · rw [if_pos ((ls_knc_v v1 p i).mpr hkn)] at f2
              rw [show ls_kk σ p i = 1 from if_pos hkn]
              exact bx (ls_rc h1) (b2x f2 (iff_ ne10 (hn 1)))
            · rw [if_neg (fun q => hkn ((ls_knc_v v1 p i).mp q))] at f2
              rw [show ls_kk σ p i = 0 from if_neg hkn]
              exact bx (ls_rc h1) (b2x f2 (ift rfl (hn 0)))) (by
            rintro x ⟨M1, τ, rfl, h1, v1⟩
            have e3 : τ 3 0 = σ 3 0 := congrFun (v1 3 (ls_nx_of (by omega) (by omega))) 0
            exact ⟨_, bx (ls_fI h1 3 (by decide)) (ift (show nI (τ 3 0) ≤ nI (σ 3 0) by rw [e3]; exact nI_le (Nat.le_refl _) (by omega)) (mpx rfl)), M1, τ, rfl, h1, v1⟩)
        exact ⟨_, M1, X (ift he (bx (lc_r0 hc 0 1 (by decide)) (bx (pe_rc kl) (bx (lc_countKnown hc O1 hp (by omega) okc) rfl)))), Y (ift (by rw [he]; decide) (ift (by rw [he]; decide) hr)), ls_fin1 h1 hc v1 hG⟩
      · obtain ⟨M1, τ, e, h1, v1⟩ := Y1 (by omega) (by omega)
        exact ⟨_, M1, X (iff_ (N 0 (by omega) (by omega)) (ift he (bx (lc_r0 hc 0 1 (by decide)) (bx (pe_rc kl) (bx (lc_countSides6 hc O1 hp (by omega) okc (κ := 1) (by omega)) rfl))))), e, ls_fin1 h1 hc v1 hG⟩
      · obtain ⟨M1, τ, e, h1, v1⟩ := Y1 (by omega) (by omega)
        exact ⟨_, M1, X (iff_ (N 0 (by omega) (by omega)) (iff_ (N 1 (by omega) (by omega)) (ift he (bx (lc_r0 hc 0 1 (by decide)) (bx (pe_rc kl) (bx (lc_countSides6 hc O1 hp (by omega) okc (κ := 2) (by omega)) rfl)))))), e, ls_fin1 h1 hc v1 hG⟩
      · obtain ⟨M1, τ, e, h1, v1⟩ := Y1 (by omega) (by omega)
        exact ⟨_, M1, X (iff_ (N 0 (by omega) (by omega)) (iff_ (N 1 (by omega) (by omega)) (iff_ (N 2 (by omega) (by omega)) (ift he (bx (lc_r0 hc 0 1 (by decide)) (bx (pe_rc kl) (bx (lc_countSides6 hc O1 hp (by omega) okc (κ := 3) (by omega)) rfl))))))), e, ls_fin1 h1 hc v1 hG⟩
      · exact ⟨nI (σ 10 p), M, X (iff_ (N 0 (by omega) (by omega)) (iff_ (N 1 (by omega) (by omega)) (iff_ (N 2 (by omega) (by omega)) (iff_ (N 3 (by omega) (by omega)) (ift he (bx (pfI kl i5.2) rfl)))))), Y (iff_ (by rw [he]; decide) (ift he (bx (ls_fR hM 10 (by decide)) (bx (ls_aI hM 10 p (by decide) hp) rfl)))), ls_no hM hc hG⟩
      · exact ⟨nI (σ 8 p), M, X (iff_ (N 0 (by omega) (by omega)) (iff_ (N 1 (by omega) (by omega)) (iff_ (N 2 (by omega) (by omega)) (iff_ (N 3 (by omega) (by omega)) (iff_ (N 4 (by omega) (by omega)) (ift he (bx (pfI kl i5.1) rfl))))))), Y (iff_ (by rw [he]; decide) (iff_ (N 4 (by omega) (by omega)) (bx (ls_fR hM 8 (by decide)) (bx (ls_aI hM 8 p (by decide) hp) rfl)))), ls_no hM hc hG⟩
    · have hk : ∀ j, j ≤ 5 → ¬ w = nI j := fun j hj e => hw (by rw [e]; exact ⟨nI_pos' (by omega), nI_le (b := 5) hj (by omega)⟩)
      exact ⟨-1, M, X (iff_ (hk 0 (by omega)) (iff_ (hk 1 (by omega)) (iff_ (hk 2 (by omega)) (iff_ (hk 3 (by omega)) (iff_ (hk 4 (by omega)) (iff_ (hk 5 (by omega)) rfl)))))), bx (ls_isPupil_in M hp) (iff_ ne10 (bx (ls_within_out _ hw) (ift rfl rfl))), ls_no hM hc hG⟩
  · exact ⟨-1, M, bx (pe_rc (lc_k0 hc)) (bx (lc_learnerOut hc hx) (ift rfl rfl)), bx (ls_isPupil_out M hx) (ift rfl rfl), ls_no hM hc hG⟩
theorem ca_mean (hM : ls_M n σ M M) (hc : lc n σ M M) (hG : ls_G k σ) (x y : Int32) : ls_c1 n k M (fun M => f_X9_mean M (some n) x y) (fun M => f_X10_mean M (some (n + 31)) x y) := by
  have O1 := hG.1
  have h120 := O1.1
  have ks : mm_rc M (some (n + 8)) 7 = some () := pe_rc (lc_kla hc (p := 4) (by omega))
  rcases pe_side σ x y with ⟨c, s, hc1, hs1, rfl, rfl⟩ | hs
  · have h4 := (O1.2.1 c hc1).2
    obtain ⟨r, hr, M1, τ, rfl, h1, v1⟩ := pe_cnt (body := fun x : mm_M × Int32 × Int32 => f_X10_mean_16 x.1 (some (n + 31)) (nI c) (nI s) x.2.1 x.2.2) (x := (M, 0, 0)) (fun i x => ∃ M1 τ, x = (M1, nI (ls_sm (fun p => ls_c0h (ls_at σ (480 * p + 4 * c + s)) (σ 8 p)) i), nI i) ∧ ls_M n τ M M1 ∧ ls_v σ τ) (fun r => ∃ M1 τ, r = (nI (ls_sm (fun p => ls_c0h (ls_at σ (480 * p + 4 * c + s)) (σ 8 p)) 4), M1) ∧ ls_M n τ M M1 ∧ ls_v σ τ) 4 ⟨M, σ, rfl, hM, ls_v_rf σ⟩ (by
        rintro p x hp ⟨M1, τ, rfl, h1, v1⟩
        have e3 : τ 3 0 = σ 3 0 := congrFun (v1 3 (ls_nx_of (by omega) (by omega))) 0
        have e0 : τ 0 c = σ 0 c := congrFun (v1 0 (ls_nx_of (by omega) (by omega))) c
        have e8 : τ 8 p = σ 8 p := congrFun (v1 8 (ls_nx_of (by omega) (by omega))) p
        obtain ⟨M2, τ2, f2, h2, v2⟩ := ls_mem5 h1 (ls_G_v hG v1) (p := p) (c := c) (s := s) hp (by rw [e3]; exact hc1) (by rw [e0]; exact hs1) 5 rfl
        rw [ls_v_at v1, e8] at f2
        refine ⟨(M2, nI (ls_sm (fun p => ls_c0h (ls_at σ (480 * p + 4 * c + s)) (σ 8 p)) (p + 1)), nI (p + 1)), iff_ (nI_ge (b := 4) hp (by omega)) (bx (ls_rc h1) (b2x f2 ?_)), M2, τ2, rfl, h2, ls_v_tr v1 v2⟩
        show some (Sum.inl (M2, nI (ls_sm (fun p => ls_c0h (ls_at σ (480 * p + 4 * c + s)) (σ 8 p)) p) + nI (ls_c0h (ls_at σ (480 * p + 4 * c + s)) (σ 8 p)), nI p + 1)) = _
        rw [nI_1, nI_add]
        rfl) (by
        rintro x ⟨M1, τ, rfl, h1, v1⟩
        exact ⟨_, ift (nI_le (a := 4) (b := 4) (Nat.le_refl _) (by omega)) (mpx rfl), M1, τ, rfl, h1, v1⟩)
    refine ⟨_, M1, bx (lc_r0 hc 3 8 (by decide)) (bx ks (bx (lc_memOf hc O1 (p := 4) (by omega) hc1 hs1) (iff_ (fun q => nomatch q) ?_))), bx (ls_rc hM) (bx (ls_isSide_in hM h120 hc1 hs1 (by omega)) (iff_ ne10 hr)), ls_fin1 h1 hc v1 hG⟩
    refine pe_for (body := fun x : Int32 × Int32 => f_X9_mean_19 M (some n) (nI c) (nI s) x.1 x.2) (fun i => (nI (ls_sm (fun p => ls_c0h (ls_at σ (480 * p + 4 * c + s)) (σ 8 p)) i), nI i)) 4 (fun p hp => ?_) ?_
    · have np : p < 5 := by omega
      have k7 : mm_k M (n + 7) = some (15, 4) := lc_k hc (7, 15, 4) (by decide)
      have q : ∀ p, p < 4 → (7, p, lc_lo p) ∈ lc_rt := by decide
      have i5 := hc.2.1.2.2.2.2.1 p hp
      have t5 := hG.2.1.2.2.2.2 p hp
      refine bx (lc_r0 hc 2 7 (by decide)) (bx (pe_ln k7 (by omega)) (iff_ (nI_ge (b := 4) hp (by omega)) (bx (lc_r0 hc 2 7 (by decide)) (bx (paR k7 hp (by omega) (lc_r hc _ (q p hp))) (bx (pe_rc (lc_kla hc np)) (bx (lc_memOf hc O1 np hc1 hs1) (iff_ (fun q => nomatch q) (bx (lc_r0 hc 2 7 (by decide)) (bx (paR k7 hp (by omega) (lc_r hc _ (q p hp))) (bx (pfI (lc_kla hc np) i5.1) (bx (lc_r0 hc 0 1 (by decide)) (bx (pe_rc (lc_memRc hc np hc1 hs1)) (bx (lc_chanceOn (lc_at_of hc np hc1 hs1) (lc_cv_of hc) (ls_G_ok hG hp hc1 hs1).1 (by omega)) ?_)))))))))))))
      show some (Sum.inl (nI (ls_sm (fun p => ls_c0h (ls_at σ (480 * p + 4 * c + s)) (σ 8 p)) p) + nI (ls_c0h (ls_at σ (480 * p + 4 * c + s)) (σ 8 p)), nI p + 1)) = _
      rw [nI_1, nI_add]
      rfl
    · exact bx (lc_r0 hc 2 7 (by decide)) (bx (pe_ln (lc_k hc (7, 15, 4) (by decide)) (by omega)) (ift (nI_le (a := 4) (b := 4) (Nat.le_refl _) (by omega)) (mpx rfl)))
  · exact ⟨-1, M, bx (lc_r0 hc 3 8 (by decide)) (bx ks (bx (lc_memOfOut hc O1 (p := 4) (by omega) hs) (ift rfl rfl))), bx (ls_rc hM) (bx (ls_isSide_out hM h120 (fun c h => ls_O1s O1 h) hs) (ift rfl rfl)), ls_no hM hc hG⟩
end
