-- what holds of the state
def ls_O1 (σ : ls_S) : Prop := σ 3 0 ≤ 120 ∧ (∀ c, c < σ 3 0 → 1 ≤ σ 0 c ∧ σ 0 c ≤ 4) ∧ ∀ c, c < σ 3 0 → σ 2 c ≤ 4 ∧ ∀ k, k < σ 2 c → σ 1 (4 * c + k) < σ 3 0
def ls_O2 (σ : ls_S) : Prop := σ 4 0 ≤ 2 ∧ (∀ a, a < 4 → σ 5 a ≤ 100000) ∧ σ 6 0 ≤ 400 ∧ σ 7 0 ≤ 100 ∧ ∀ p, p < 4 → σ 8 p ≤ 100000
def ls_O3 (σ : ls_S) : Prop := ∀ p, p < 4 → ∀ q, q < 480 → ls_ok (ls_at σ (480 * p + q)) (σ 8 p)
theorem ls_nx_of {f : Nat} (h : f < 29 ∨ 33 < f) (h2 : f ≠ 45) : ls_nx f := by unfold ls_nx; omega
theorem ls_v_at {σ τ : ls_S} (h : ls_v σ τ) (q : Nat) : ls_at τ q = ls_at σ q := by
  unfold ls_at
  rw [h 13 (ls_nx_of (by omega) (by omega)), h 14 (ls_nx_of (by omega) (by omega)), h 15 (ls_nx_of (by omega) (by omega)), h 16 (ls_nx_of (by omega) (by omega)), h 17 (ls_nx_of (by omega) (by omega))]
theorem ls_v1 {σ τ : ls_S} (h : ls_v σ τ) (ho : ls_O1 σ) : ls_O1 τ := by
  unfold ls_O1
  rw [h 0 (ls_nx_of (by omega) (by omega)), h 1 (ls_nx_of (by omega) (by omega)), h 2 (ls_nx_of (by omega) (by omega)), h 3 (ls_nx_of (by omega) (by omega))]
  exact ho
theorem ls_v3 {σ τ : ls_S} (h : ls_v σ τ) (ho : ls_O3 σ) : ls_O3 τ := by
  intro p hp q hq
  rw [ls_v_at h, h 8 (ls_nx_of (by omega) (by omega))]
  exact ho p hp q hq
theorem ls_ok_up {v : ls_V} {t u : Nat} (h : ls_ok v t) (hu : t ≤ u) : ls_ok v u := ⟨h.1, h.2.1, h.2.2.1, h.2.2.2.1, h.2.2.2.2.1, by have := h.2.2.2.2.2.1; omega, h.2.2.2.2.2.2⟩
theorem ls_aB_ok {r b a on : Nat} {v : ls_V} (hk : ls_ok v on) (ha : v.2.2.2.2 < 100000) : ls_ok (ls_aB r b a on v) on ∧ 500 ≤ (ls_aB r b a on v).1 := by
  obtain ⟨k1, k2, k3, k4, k5, k6, k7⟩ := hk
  have hz : v.2.2.2.2 + (if a = 0 then 1 else 0) ≤ 100000 := by split <;> omega
  unfold ls_aB
  split
  · have hb : (if a = 0 then 0 else if 9 < v.2.2.1 + a - 1 then 9 else v.2.2.1 + a - 1) ≤ 9 := by split <;> (try split) <;> omega
    generalize (if a = 0 then 0 else if 9 < v.2.2.1 + a - 1 then 9 else v.2.2.1 + a - 1) = b1 at hb
    have e1 : 2 ^ b1 ≤ 2 ^ 9 := Nat.pow_le_pow_right (by omega) hb
    have e2 : 1 ≤ 2 ^ b1 := Nat.one_le_two_pow
    exact ⟨⟨Or.inr (show 500 ≤ 1000 * 2 ^ b1 by omega), show 1000 * 2 ^ b1 ≤ 4000000 by omega, k3, k4, hb, Nat.le_refl _, hz⟩, show 500 ≤ 1000 * 2 ^ b1 by omega⟩
  · split
    · have hb : 500 ≤ (if a = 0 then 500 else if a = 1 then 1000 else if a = 3 then 6000 else 2500) ∧ (if a = 0 then 500 else if a = 1 then 1000 else if a = 3 then 6000 else 2500) ≤ 6000 := by split <;> (try split) <;> (try split) <;> omega
      exact ⟨⟨Or.inr hb.1, Nat.le_trans hb.2 (by omega), k3, k4, k5, Nat.le_refl _, hz⟩, hb.1⟩
    · split
      · have hb := ls_kp_b (v.1 * b / 1000) 500 4000000 (by omega)
        exact ⟨⟨Or.inr hb.1, hb.2, k3, k4, k5, Nat.le_refl _, hz⟩, hb.1⟩
      · refine ⟨⟨Or.inr (ls_kp_b _ _ _ (by omega)).1, (ls_kp_b _ _ _ (by omega)).2, (ls_kp_b _ _ _ (by omega)).1, (ls_kp_b _ _ _ (by omega)).2, k5, Nat.le_refl _, hz⟩, (ls_kp_b _ _ _ (by omega)).1⟩
abbrev ls_knc (σ : ls_S) (p c : Nat) : Prop := ∀ s, s < σ 0 c → ls_kn (ls_at σ (480 * p + 4 * c + s)) (σ 8 p)
section
variable {n : Nat} {σ : ls_S} {B M : mm_M}
theorem ls_ix (p c s : Nat) : nI p * 480 + 4 * nI c + nI s = nI (480 * p + 4 * c + s) := by
  rw [show nI p * 480 = nI (p * 480) from pk_mul p 480, show 4 * nI c = nI (4 * c) from pk_mul 4 c, nI_add, nI_add]
  congr 1; omega
theorem ls_isKnownSide (h : ls_M n σ B M) (h3 : ls_O3 σ) {p c s : Nat} (hp : p < 4) (hc : 4 * c + s < 480) (ht : σ 8 p ≤ 200000) : ∃ M1 τ, f_X10_isKnownSide M (some (n + 31)) (nI p) (nI c) (nI s) = some (if ls_kn (ls_at σ (480 * p + 4 * c + s)) (σ 8 p) then 1 else 0, M1) ∧ ls_M n τ B M1 ∧ ls_v σ τ ∧ ls_sc τ = ls_at σ (480 * p + 4 * c + s) := by
  obtain ⟨M1, τ, e1, h1, v1, c1⟩ := ls_take h (q := 480 * p + 4 * c + s) (by omega)
  refine ⟨M1, τ, bx (ls_rc h) (bx (a := M1) (by rw [ls_ix]; exact e1) (bx (ls_fI h1 29 (by decide)) ?_)), h1, v1, c1⟩
  have hk := h3 p hp (4 * c + s) hc
  rw [show 480 * p + (4 * c + s) = 480 * p + 4 * c + s by omega] at hk
  generalize ls_at σ (480 * p + 4 * c + s) = v at c1 hk
  have e2 : τ 29 0 = v.1 := congrArg (fun x => x.1) c1
  have e3 : τ 33 0 = v.2.2.2.2 := congrArg (fun x => x.2.2.2.2) c1
  obtain ⟨k1, k2, k3, k4, k5, k6, k7⟩ := id hk
  by_cases hs : v.1 = 0
  · have e : (if ls_kn v (σ 8 p) then (1 : Int32) else 0) = 0 := if_neg (fun q => by have := q.1; omega)
    rw [e]
    exact ift (show nI (τ 29 0) ≤ 0 by rw [e2, hs]; decide) (gz (s := 0) (Or.inl rfl) rfl)
  · refine iff_ (show ¬ nI (τ 29 0) ≤ 0 by rw [e2]; exact nI_nle (by omega) (by omega)) (bx (ls_rc h1) (bx (ls_isLeech h1 (by omega)) ?_))
    by_cases ha : v.2.2.2.2 < 8
    · have e8 : τ 8 p = σ 8 p := congrFun (v1 8 (ls_nx_of (by omega) (by omega))) p
      refine ift (if_pos (by omega)) (bx (ls_fR h1 8 (by decide)) (bx (ls_aI h1 8 p (by decide) hp) (bx (ls_rc h1) (bx (a := if ls_due v (σ 8 p) then 1 else 0) ?_ ?_))))
      · show f_X10_isDue M1 (some (n + 31)) (nI (τ 8 p)) = _
        rw [e8]
        exact ls_isDue h1 c1 hk ht
      · by_cases hd : ls_ch v (σ 8 p) < 900
        · have e : (if ls_kn v (σ 8 p) then (1 : Int32) else 0) = 0 := if_neg (fun q => by have := q.2.2; omega)
          rw [e]
          have e' : (if ls_due v (σ 8 p) then (1 : Int32) else 0) = 1 := if_pos ⟨by omega, ha, hd⟩
          exact iff_ (by rw [e']; decide) (gz (s := 0) (Or.inl rfl) rfl)
        · have e : (if ls_kn v (σ 8 p) then (1 : Int32) else 0) = 1 := if_pos ⟨by omega, ha, by omega⟩
          rw [e]
          have e' : (if ls_due v (σ 8 p) then (1 : Int32) else 0) = 0 := if_neg (fun q => hd q.2.2)
          exact ift e' (gz (s := 1) (Or.inr rfl) rfl)
    · have e : (if ls_kn v (σ 8 p) then (1 : Int32) else 0) = 0 := if_neg (fun q => ha q.2.1)
      rw [e]
      have e' : (if τ 33 0 < 8 then (0 : Int32) else 1) = 1 := if_neg (by omega)
      exact iff_ (by rw [e']; decide) (gz (s := 0) (Or.inl rfl) rfl)
theorem ls_isKnown (h : ls_M n σ B M) (h1 : ls_O1 σ) (h3 : ls_O3 σ) {p c : Nat} (hp : p < 4) (hc : c < σ 3 0) (ht : σ 8 p ≤ 200000) : ∃ M1 τ, f_X10_isKnown M (some (n + 31)) (nI p) (nI c) = some (if ls_knc σ p c then 1 else 0, M1) ∧ ls_M n τ B M1 ∧ ls_v σ τ := by
  have hs := h1.2.1 c hc
  have h120 := h1.1
  obtain ⟨r, hr, M1, τ, rfl, hm, hv⟩ := pe_loop (body := fun x : mm_M × Int32 × Int32 => f_X10_isKnown_5 x.1 (some (n + 31)) (nI p) (nI c) x.2.1 x.2.2) (x := (M, 1, 0))
    (fun i x => ∃ M1 τ, x = (M1, (if ∀ s, s < i → ls_kn (ls_at σ (480 * p + 4 * c + s)) (σ 8 p) then 1 else 0), nI i) ∧ ls_M n τ B M1 ∧ ls_v σ τ)
    (fun r => ∃ M1 τ, r = (if ls_knc σ p c then 1 else 0, M1) ∧ ls_M n τ B M1 ∧ ls_v σ τ) (σ 0 c) ⟨M, σ, by rw [if_pos (fun s hs => absurd hs (Nat.not_lt_zero s))]; rfl, h, ls_v_rf σ⟩ (by
      rintro i x hi ⟨M1, τ, rfl, hm, hv⟩
      have e0 : τ 0 c = σ 0 c := congrFun (hv 0 (ls_nx_of (by omega) (by omega))) c
      have e8 : τ 8 p = σ 8 p := congrFun (hv 8 (ls_nx_of (by omega) (by omega))) p
      by_cases hic : i = σ 0 c
      · subst hic
        refine Or.inr ⟨_, bx (ls_fR hm 0 (by decide)) (bx (ls_aI hm 0 c (by decide) (show c < 120 by omega)) (ift (show nI (τ 0 c) ≤ nI (σ 0 c) by rw [e0]; exact nI_le (Nat.le_refl _) (by omega)) (mpx (gz (pe_01 _) rfl)))), M1, τ, rfl, hm, hv⟩
      · have hstep : ∀ (b : Int32) M2, f_X10_isKnown_36 M2 (some (n + 31)) (nI p) (nI c) (nI i) b = some (.inl (M2, b, nI (i + 1))) := fun b M2 => by
          show some (Sum.inl (M2, b, nI i + 1)) = _
          rw [nI_1]
        by_cases ho : ∀ s, s < i → ls_kn (ls_at σ (480 * p + 4 * c + s)) (σ 8 p)
        · rw [if_pos ho]
          obtain ⟨M2, τ2, f2, hm2, hv2, -⟩ := ls_isKnownSide hm (ls_v3 hv h3) (p := p) (c := c) (s := i) hp (by omega) (by rw [e8]; exact ht)
          rw [ls_v_at hv, e8] at f2
          by_cases hk : ls_kn (ls_at σ (480 * p + 4 * c + i)) (σ 8 p)
          · rw [if_pos hk] at f2
            refine Or.inl ⟨_, bx (ls_fR hm 0 (by decide)) (bx (ls_aI hm 0 c (by decide) (show c < 120 by omega)) (iff_ (show ¬ nI (τ 0 c) ≤ nI i by rw [e0]; exact nI_ge (by omega) (by omega)) (iff_ ne10 (bx (ls_rc hm) (b2x f2 (iff_ (by decide) (hstep 1 M2))))))), ⟨M2, τ2, ?_, hm2, ls_v_tr hv hv2⟩, by omega⟩
            rw [if_pos (lt_s ho hk)]
          · rw [if_neg hk] at f2
            refine Or.inl ⟨_, bx (ls_fR hm 0 (by decide)) (bx (ls_aI hm 0 c (by decide) (show c < 120 by omega)) (iff_ (show ¬ nI (τ 0 c) ≤ nI i by rw [e0]; exact nI_ge (by omega) (by omega)) (iff_ ne10 (bx (ls_rc hm) (b2x f2 (ift (by decide) (hstep 0 M2))))))), ⟨M2, τ2, ?_, hm2, ls_v_tr hv hv2⟩, by omega⟩
            rw [if_neg (fun q => hk (q i (by omega)))]
        · rw [if_neg ho]
          refine Or.inl ⟨_, bx (ls_fR hm 0 (by decide)) (bx (ls_aI hm 0 c (by decide) (show c < 120 by omega)) (iff_ (show ¬ nI (τ 0 c) ≤ nI i by rw [e0]; exact nI_ge (by omega) (by omega)) (ift rfl (hstep 0 M1)))), ⟨M1, τ, ?_, hm, hv⟩, by omega⟩
          rw [if_neg (fun q => ho (fun s hs => q s (by omega)))])
  exact ⟨M1, τ, hr, hm, hv⟩
end
