section
variable {n : Nat} {σ : ls_S} {B M : mm_M}
/-- a hand's memories, as a loop reads them -/
theorem lc_hR (h : lc n σ B M) {p c : Nat} (hp : p < 5) (hc : c < σ 3 0) : mm_fR M (some (lc_hd n M p c)) 6 0 = some (some (lc_ma n M p c)) := by
  obtain ⟨k1, -, k3, k4, -, k6⟩ := h.1.2.2.2.1 p hp c hc
  rw [pe_fR 0 k1, k3]
theorem lc_hl (h : lc n σ B M) {p c : Nat} (hp : p < 5) (hc : c < σ 3 0) : mm_ln M (some (lc_ma n M p c)) = some (nI (σ 0 c)) := pe_ln (h.1.2.2.2.1 p hp c hc).2.2.2.1 (by omega)
theorem lc_ha (h : lc n σ B M) {p c s : Nat} (hp : p < 5) (hc : c < σ 3 0) (hs : s < σ 0 c) (h4 : σ 0 c ≤ 4) : mm_aR M (some (lc_ma n M p c)) 16 (nI s) = some (some (lc_mu n M p c s)) := by
  obtain ⟨k1, -, k3, k4, -, k6⟩ := h.1.2.2.2.1 p hp c hc
  rw [pe_aR k4 hs (by omega), (k6 s hs).1]
theorem lc_hrc (h : lc n σ B M) {p c s : Nat} (hp : p < 5) (hc : c < σ 3 0) (hs : s < σ 0 c) : mm_rc M (some (lc_mu n M p c s)) 9 = some () := pe_rc ((h.1.2.2.2.1 p hp c hc).2.2.2.2.2 s hs).2.1
/-- the sides of a card are well, on a day -/
def ls_okc (σ : ls_S) (p c on : Nat) : Prop := (∀ s, s < σ 0 c → ls_ok (ls_at σ (480 * p + 4 * c + s)) on) ∧ ∀ s, s < σ 0 c → σ 12 (480 * p + 4 * c + s) ≤ 1
theorem lc_hKnown (h : lc n σ B M) (h1 : ls_O1 σ) {p c on : Nat} (hp : p < 5) (hc : c < σ 3 0) (hon : on ≤ 110000) (hk : ls_okc σ p c on) : f_X5_isKnown M (some (lc_hd n M p c)) (nI on) (some (n + 1)) = some (if ∀ s, s < σ 0 c → ls_kn (ls_at σ (480 * p + 4 * c + s)) on then 1 else 0) := by
  have h4 := (h1.2.1 c hc).2
  obtain ⟨r, hr, hq⟩ := pe_loop (body := fun x : Int32 => f_X5_isKnown_2 M (some (lc_hd n M p c)) (nI on) (some (n + 1)) x) (x := 0)
    (fun i x => x = nI i ∧ ∀ s, s < i → ls_kn (ls_at σ (480 * p + 4 * c + s)) on)
    (fun r => r = (if ∀ s, s < σ 0 c → ls_kn (ls_at σ (480 * p + 4 * c + s)) on then (1 : Int32) else 0)) (σ 0 c) ⟨rfl, fun s hs => absurd hs (Nat.not_lt_zero s)⟩ (by
      rintro i x hi ⟨rfl, ha⟩
      by_cases hic : i = σ 0 c
      · subst hic
        exact Or.inr ⟨1, bx (lc_hR h hp hc) (bx (lc_hl h hp hc) (ift (nI_le (Nat.le_refl _) (by omega)) (mpx rfl))), (if_pos ha).symm⟩
      · have hi2 : i < σ 0 c := by omega
        have fk := lc_isKnown (lc_at_of h hp hc hi2) (lc_cv_of h) (hk.1 i hi2) hon
        by_cases hkn : ls_kn (ls_at σ (480 * p + 4 * c + i)) on
        · rw [if_pos hkn] at fk
          refine Or.inl ⟨nI (i + 1), bx (lc_hR h hp hc) (bx (lc_hl h hp hc) (iff_ (nI_ge hi2 (by omega)) (bx (lc_hR h hp hc) (bx (lc_ha h hp hc hi2 h4) (bx (lc_hrc h hp hc hi2) (bx fk (iff_ ne10 ?_))))))), ⟨rfl, lt_s ha hkn⟩, hi2⟩
          show some (Sum.inl (nI i + 1)) = _
          rw [nI_1]
        · rw [if_neg hkn] at fk
          exact Or.inr ⟨0, bx (lc_hR h hp hc) (bx (lc_hl h hp hc) (iff_ (nI_ge hi2 (by omega)) (bx (lc_hR h hp hc) (bx (lc_ha h hp hc hi2 h4) (bx (lc_hrc h hp hc hi2) (bx fk (ift rfl (mpx rfl)))))))), (if_neg (fun q => hkn (q i hi2))).symm⟩)
  rw [← hq]
  exact hr
theorem lc_mostUrgent (h : lc n σ B M) (h1 : ls_O1 σ) {p c on : Nat} (hp : p < 5) (hc : c < σ 3 0) (hon : on ≤ 110000) (hk : ls_okc σ p c on) : f_X5_mostUrgent M (some (lc_hd n M p c)) (nI on) (some (n + 1)) = some (ls_d1 (ls_ds σ (480 * p + 4 * c) on 1 (σ 0 c))) := by
  have h4 := (h1.2.1 c hc).2
  refine pe_for (body := fun x : Int32 × Int32 × Int32 => f_X5_mostUrgent_10 M (some (lc_hd n M p c)) (nI on) (some (n + 1)) x.1 x.2.1 x.2.2) (fun i => (ls_d1 (ls_ds σ (480 * p + 4 * c) on 1 i), nI (ls_d2 1000 (ls_ds σ (480 * p + 4 * c) on 1 i)), nI i)) (σ 0 c) ?_ ?_
  · intro i hi2
    have hv := lc_at_of h hp hc hi2
    have fd := lc_isDue hv (lc_cv_of h) (hk.1 i hi2) hon
    have fc := lc_chanceOn hv (lc_cv_of h) (hk.1 i hi2) hon
    have hb2 := hk.2 i hi2
    have i5 : mm_I M (lc_mu n M p c i) 5 = nI (σ 12 (480 * p + 4 * c + i)) := h.2.1.2.2.2.2.2.2.1 p hp c hc i hi2 5 (by omega)
    have hD : ls_ds σ (480 * p + 4 * c) on 1 (i + 1) = if ls_due (ls_at σ (480 * p + 4 * c + i)) on ∧ (1 = 0 ∨ σ 12 (480 * p + 4 * c + i) = 0) then (match ls_ds σ (480 * p + 4 * c) on 1 i with
      | none => some (i, ls_ch (ls_at σ (480 * p + 4 * c + i)) on)
      | some x => if ls_ch (ls_at σ (480 * p + 4 * c + i)) on < x.2 then some (i, ls_ch (ls_at σ (480 * p + 4 * c + i)) on) else some x) else ls_ds σ (480 * p + 4 * c) on 1 i := rfl
    have hds := ls_ds_b σ (480 * p + 4 * c) on 1 i
    generalize hg : ls_at σ (480 * p + 4 * c + i) = v at *
    generalize ls_ds σ (480 * p + 4 * c) on 1 (i + 1) = D at *
    generalize ls_ds σ (480 * p + 4 * c) on 1 i = o at *
    have hnext : ∀ (u w : Int32), f_X5_mostUrgent_70 M (some (lc_hd n M p c)) (nI on) (some (n + 1)) u w (nI i) = some (.inl (u, w, nI (i + 1))) := fun u w => by
      show some (Sum.inl (u, w, nI i + 1)) = _
      rw [nI_1]
    refine bx (lc_hR h hp hc) (bx (lc_hl h hp hc) (iff_ (nI_ge hi2 (by omega)) (bx (lc_hR h hp hc) (bx (lc_ha h hp hc hi2 h4) (bx (pe_fI 5 hv.1) ?_)))))
    rw [i5]
    by_cases hz : σ 12 (480 * p + 4 * c + i) = 0
    · refine ift (by rw [hz]; decide) (bx (lc_hrc h hp hc hi2) (bx fd ?_))
      by_cases hdu : ls_due v on
      · rw [if_pos ⟨hdu, Or.inr hz⟩] at hD
        subst hD
        rw [if_neg (show ¬ v.1 = 0 by have := hdu.1; omega)] at fc
        refine iff_ (by rw [if_pos hdu]; decide) (bx (lc_hrc h hp hc hi2) (bx fc ?_))
        have hcb := hdu.2.2
        cases o with
        | none => exact iff_ (nI_ge (a := ls_ch v on) (b := 1000) (by omega) (by omega)) (hnext _ _)
        | some x =>
          have hx := hds x rfl
          by_cases hl : ls_ch v on < x.2
          · simp only [if_pos hl]
            exact iff_ (nI_ge (a := ls_ch v on) (b := x.2) hl (by omega)) (hnext _ _)
          · simp only [if_neg hl]
            exact ift (nI_le (a := x.2) (b := ls_ch v on) (by omega) (by omega)) (hnext _ _)
      · rw [if_neg (fun q => hdu q.1)] at hD
        subst hD
        exact ift (if_neg hdu) (hnext _ _)
    · rw [if_neg (fun q => q.2.elim (by decide) hz)] at hD
      subst hD
      exact iff_ (nI_ne0 (by omega) (by omega)) (hnext _ _)
  · exact bx (lc_hR h hp hc) (bx (lc_hl h hp hc) (ift (nI_le (Nat.le_refl _) (by omega)) (mpx rfl)))
/-- the first side that is NEW and not BURIED, or how many there are -/
def ls_ff (σ : ls_S) (b : Nat) : Nat → Nat → Nat
  | 0, i => i
  | k + 1, i => if σ 13 (b + i) = 0 ∧ σ 12 (b + i) = 0 then i else ls_ff σ b k (i + 1)
theorem ls_ff_b (σ : ls_S) (b : Nat) : ∀ k i, i ≤ ls_ff σ b k i ∧ ls_ff σ b k i ≤ i + k
  | 0, i => ⟨Nat.le_refl _, Nat.le_refl _⟩
  | k + 1, i => by
    unfold ls_ff
    have := ls_ff_b σ b k (i + 1)
    split <;> omega
theorem lc_firstFresh (h : lc n σ B M) (h1 : ls_O1 σ) {p c on : Nat} (hp : p < 5) (hc : c < σ 3 0) (hk : ls_okc σ p c on) : f_X5_firstFresh M (some (lc_hd n M p c)) = some (if ls_ff σ (480 * p + 4 * c) (σ 0 c) 0 < σ 0 c then nI (ls_ff σ (480 * p + 4 * c) (σ 0 c) 0) else -1) := by
  have h4 := (h1.2.1 c hc).2
  obtain ⟨r, hr, hq⟩ := pe_loop (body := fun x : Int32 => f_X5_firstFresh_2 M (some (lc_hd n M p c)) x) (x := 0)
    (fun i x => x = nI i ∧ ls_ff σ (480 * p + 4 * c) (σ 0 c) 0 = ls_ff σ (480 * p + 4 * c) (σ 0 c - i) i)
    (fun r => r = (if ls_ff σ (480 * p + 4 * c) (σ 0 c) 0 < σ 0 c then nI (ls_ff σ (480 * p + 4 * c) (σ 0 c) 0) else -1)) (σ 0 c) ⟨rfl, rfl⟩ (by
      rintro i x hi ⟨rfl, ha⟩
      by_cases hic : i = σ 0 c
      · subst hic
        rw [Nat.sub_self] at ha
        have e0 : ls_ff σ (480 * p + 4 * c) (σ 0 c) 0 = σ 0 c := ha
        exact Or.inr ⟨-1, bx (lc_hR h hp hc) (bx (lc_hl h hp hc) (ift (nI_le (Nat.le_refl _) (by omega)) (mpx rfl))), (if_neg (by rw [e0]; omega)).symm⟩
      · have hi2 : i < σ 0 c := by omega
        have hv := lc_at_of h hp hc hi2
        have hok := hk.1 i hi2
        have fk := lc_isFresh hv (by have := hok.2.1; omega)
        have hb2 := hk.2 i hi2
        have i5 : mm_I M (lc_mu n M p c i) 5 = nI (σ 12 (480 * p + 4 * c + i)) := h.2.1.2.2.2.2.2.2.1 p hp c hc i hi2 5 (by omega)
        obtain ⟨k, hk2⟩ : ∃ k, σ 0 c - i = k + 1 := ⟨σ 0 c - i - 1, by omega⟩
        have hu : ls_ff σ (480 * p + 4 * c) (k + 1) i = if σ 13 (480 * p + 4 * c + i) = 0 ∧ σ 12 (480 * p + 4 * c + i) = 0 then i else ls_ff σ (480 * p + 4 * c) k (i + 1) := rfl
        rw [hk2, hu] at ha
        have hgo : ∀ {r}, f_X5_firstFresh_11 M (some (lc_hd n M p c)) (nI i) = r → f_X5_firstFresh_2 M (some (lc_hd n M p c)) (nI i) = r := fun q => bx (lc_hR h hp hc) (bx (lc_hl h hp hc) (iff_ (nI_ge hi2 (by omega)) q))
        have hnext : f_X5_firstFresh_37 M (some (lc_hd n M p c)) (nI i) = some (.inl (nI (i + 1))) := by
          show some (Sum.inl (nI i + 1)) = _
          rw [nI_1]
        have hin : ¬ (σ 13 (480 * p + 4 * c + i) = 0 ∧ σ 12 (480 * p + 4 * c + i) = 0) → nI (i + 1) = nI (i + 1) ∧ ls_ff σ (480 * p + 4 * c) (σ 0 c) 0 = ls_ff σ (480 * p + 4 * c) (σ 0 c - (i + 1)) (i + 1) := fun q => by
          rw [if_neg q] at ha
          exact ⟨rfl, by rw [ha, show σ 0 c - (i + 1) = k by omega]⟩
        by_cases hs0 : σ 13 (480 * p + 4 * c + i) = 0
        · rw [if_pos (show (ls_at σ (480 * p + 4 * c + i)).1 = 0 from hs0)] at fk
          by_cases hz : σ 12 (480 * p + 4 * c + i) = 0
          · rw [if_pos ⟨hs0, hz⟩] at ha
            refine Or.inr ⟨nI i, hgo (bx (lc_hR h hp hc) (bx (lc_ha h hp hc hi2 h4) (bx (lc_hrc h hp hc hi2) (bx fk (iff_ ne10 (bx (lc_hR h hp hc) (bx (lc_ha h hp hc hi2 h4) (bx (pe_fI 5 hv.1) (ift (by rw [i5, hz]; decide) (mpx rfl)))))))))), ?_⟩
            rw [ha, if_pos hi2]
          · exact Or.inl ⟨nI (i + 1), hgo (bx (lc_hR h hp hc) (bx (lc_ha h hp hc hi2 h4) (bx (lc_hrc h hp hc hi2) (bx fk (iff_ ne10 (bx (lc_hR h hp hc) (bx (lc_ha h hp hc hi2 h4) (bx (pe_fI 5 hv.1) (iff_ (by rw [i5]; exact nI_ne0 (by omega) (by omega)) hnext))))))))), hin (fun q => hz q.2), hi2⟩
        · rw [if_neg (show ¬ (ls_at σ (480 * p + 4 * c + i)).1 = 0 from hs0)] at fk
          exact Or.inl ⟨nI (i + 1), hgo (bx (lc_hR h hp hc) (bx (lc_ha h hp hc hi2 h4) (bx (lc_hrc h hp hc hi2) (bx fk (ift rfl hnext))))), hin (fun q => hs0 q.1), hi2⟩)
  rw [← hq]
  exact hr
end
