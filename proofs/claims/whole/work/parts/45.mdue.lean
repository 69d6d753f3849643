/-- the side that is asked of a card: least chance, first of like ones -/
def ls_ds (σ : ls_S) (b on md : Nat) : Nat → Option (Nat × Nat)
  | 0 => none
  | k + 1 => if ls_due (ls_at σ (b + k)) on ∧ (md = 0 ∨ σ 12 (b + k) = 0) then (match ls_ds σ b on md k with
    | none => some (k, ls_ch (ls_at σ (b + k)) on)
    | some x => if ls_ch (ls_at σ (b + k)) on < x.2 then some (k, ls_ch (ls_at σ (b + k)) on) else some x) else ls_ds σ b on md k
theorem ls_ds_b (σ : ls_S) (b on md : Nat) : ∀ k x, ls_ds σ b on md k = some x → x.1 < k ∧ x.2 < 900
  | 0, x, h => by cases h
  | k + 1, x, h => by
    unfold ls_ds at h
    split at h
    · rename_i hd
      cases hk : ls_ds σ b on md k with
      | none =>
        rw [hk] at h
        cases h
        exact ⟨Nat.lt_succ_self _, hd.1.2.2⟩
      | some y =>
        rw [hk] at h
        have := ls_ds_b σ b on md k y hk
        simp only at h
        split at h
        · cases h
          exact ⟨Nat.lt_succ_self _, hd.1.2.2⟩
        · cases h
          exact ⟨by omega, this.2⟩
    · have := ls_ds_b σ b on md k x h
      exact ⟨by omega, this.2⟩
theorem ls_ds_v {σ τ : ls_S} (h : ls_v σ τ) (b on md : Nat) : ∀ k, ls_ds τ b on md k = ls_ds σ b on md k
  | 0 => rfl
  | k + 1 => by
    unfold ls_ds
    rw [ls_ds_v h b on md k, ls_v_at h, h 12 (ls_nx_of (by omega) (by omega))]
/-- a side or -1; its chance, or what stands for none -/
def ls_d1 (o : Option (Nat × Nat)) : Int32 := match o with
  | none => -1
  | some x => nI x.1
def ls_d2 (z : Nat) (o : Option (Nat × Nat)) : Nat := match o with
  | none => z
  | some x => x.2
section
variable {n : Nat} {σ : ls_S} {B M : mm_M}
theorem ls_dueSide (h : ls_M n σ B M) (h1 : ls_O1 σ) {p c on md : Nat} (hp : p < 4) (hc : c < σ 3 0) (hon : on ≤ 200000) (hmd : md ≤ 1) (hok : ∀ s, s < σ 0 c → ls_ok (ls_at σ (480 * p + 4 * c + s)) on) (hb : ∀ s, s < σ 0 c → σ 12 (480 * p + 4 * c + s) ≤ 1) : ∃ M1 τ, f_X10_dueSide M (some (n + 31)) (nI p) (nI c) (nI on) (nI md) = some (ls_d1 (ls_ds σ (480 * p + 4 * c) on md (σ 0 c)), M1) ∧ ls_M n τ B M1 ∧ ls_v σ τ ∧ τ 45 0 = ls_d2 0 (ls_ds σ (480 * p + 4 * c) on md (σ 0 c)) := by
  have hs := h1.2.1 c hc
  have h120 := h1.1
  obtain ⟨r, hr, M1, τ, rfl, hm, hv, h45⟩ := pe_loop (body := fun x : mm_M × Int32 × Int32 × Int32 => f_X10_dueSide_9 x.1 (some (n + 31)) (nI p) (nI c) (nI on) (nI md) x.2.1 x.2.2.1 x.2.2.2) (x := (M, -1, 0, 0))
    (fun i x => ∃ M1 τ, x = (M1, ls_d1 (ls_ds σ (480 * p + 4 * c) on md i), nI (ls_d2 0 (ls_ds σ (480 * p + 4 * c) on md i)), nI i) ∧ ls_M n τ B M1 ∧ ls_v σ τ)
    (fun r => ∃ M1 τ, r = (ls_d1 (ls_ds σ (480 * p + 4 * c) on md (σ 0 c)), M1) ∧ ls_M n τ B M1 ∧ ls_v σ τ ∧ τ 45 0 = ls_d2 0 (ls_ds σ (480 * p + 4 * c) on md (σ 0 c))) (σ 0 c) ⟨M, σ, rfl, h, ls_v_rf σ⟩ (by
      rintro i x hi ⟨M1, τ, rfl, hm, hv⟩
      have e0 : τ 0 c = σ 0 c := congrFun (hv 0 (ls_nx_of (by omega) (by omega))) c
      by_cases hic : i = σ 0 c
      · subst hic
        obtain ⟨M2, f2, h2⟩ := ls_pI hm 45 (ls_d2 0 (ls_ds σ (480 * p + 4 * c) on md (σ 0 c))) (by decide)
        refine Or.inr ⟨_, bx (ls_fR hm 0 (by decide)) (bx (ls_aI hm 0 c (by decide) (show c < 120 by omega)) (ift (show nI (τ 0 c) ≤ nI (σ 0 c) by rw [e0]; exact nI_le (Nat.le_refl _) (by omega)) (mpx (bx f2 rfl)))), M2, _, rfl, h2, ls_v_u hv (by unfold ls_nx; omega), rfl⟩
      · have hi2 : i < σ 0 c := by omega
        obtain ⟨M2, τ2, f2, hm2, hv2, c2⟩ := ls_take hm (q := 480 * p + 4 * c + i) (by omega)
        have hv3 := ls_v_tr hv hv2
        rw [ls_v_at hv] at c2
        have hk := hok i hi2
        have hb2 := hb i hi2
        have e12 : τ2 12 (480 * p + 4 * c + i) = σ 12 (480 * p + 4 * c + i) := congrFun (hv3 12 (ls_nx_of (by omega) (by omega))) _
        have fd := ls_isDue hm2 c2 hk hon
        have hnext : ∀ (u w : Int32), f_X10_dueSide_90 M2 (some (n + 31)) (nI p) (nI c) (nI on) (nI md) u w (nI i) = some (.inl (M2, u, w, nI (i + 1))) := fun u w => by
          show some (Sum.inl (M2, u, w, nI i + 1)) = _
          rw [nI_1]
        have hpre : ∀ {r}, f_X10_dueSide_20 M1 (some (n + 31)) (nI p) (nI c) (nI on) (nI md) (ls_d1 (ls_ds σ (480 * p + 4 * c) on md i)) (nI (ls_d2 0 (ls_ds σ (480 * p + 4 * c) on md i))) (nI i) = r → f_X10_dueSide_9 M1 (some (n + 31)) (nI p) (nI c) (nI on) (nI md) (ls_d1 (ls_ds σ (480 * p + 4 * c) on md i)) (nI (ls_d2 0 (ls_ds σ (480 * p + 4 * c) on md i))) (nI i) = r := fun q => bx (ls_fR hm 0 (by decide)) (bx (ls_aI hm 0 c (by decide) (show c < 120 by omega)) (iff_ (show ¬ nI (τ 0 c) ≤ nI i by rw [e0]; exact nI_ge (by omega) (by omega)) q))
        refine Or.inl ⟨(M2, ls_d1 (ls_ds σ (480 * p + 4 * c) on md (i + 1)), nI (ls_d2 0 (ls_ds σ (480 * p + 4 * c) on md (i + 1))), nI (i + 1)), hpre (bx (ls_rc hm) (bx (a := M2) (by rw [ls_ix]; exact f2) (bx (ls_rc hm2) (bx fd ?_)))), ⟨M2, τ2, rfl, hm2, hv3⟩, hi2⟩
        have hds := ls_ds_b σ (480 * p + 4 * c) on md i
        have hD : ls_ds σ (480 * p + 4 * c) on md (i + 1) = if ls_due (ls_at σ (480 * p + 4 * c + i)) on ∧ (md = 0 ∨ σ 12 (480 * p + 4 * c + i) = 0) then (match ls_ds σ (480 * p + 4 * c) on md i with
          | none => some (i, ls_ch (ls_at σ (480 * p + 4 * c + i)) on)
          | some x => if ls_ch (ls_at σ (480 * p + 4 * c + i)) on < x.2 then some (i, ls_ch (ls_at σ (480 * p + 4 * c + i)) on) else some x) else ls_ds σ (480 * p + 4 * c) on md i := rfl
        generalize hg : ls_at σ (480 * p + 4 * c + i) = v at *
        generalize ls_ds σ (480 * p + 4 * c) on md (i + 1) = D at *
        generalize ls_ds σ (480 * p + 4 * c) on md i = o at *
        by_cases hdu : ls_due v on
        · refine iff_ (by rw [if_pos hdu]; decide) ?_
          have go : (md = 0 ∨ σ 12 (480 * p + 4 * c + i) = 0) → f_X10_dueSide_63 M2 (some (n + 31)) (nI p) (nI c) (nI on) (nI md) (ls_d1 o) (nI (ls_d2 0 o)) (nI i) = some (.inl (M2, ls_d1 D, nI (ls_d2 0 D), nI (i + 1))) := by
            intro hz
            rw [if_pos ⟨hdu, hz⟩] at hD
            subst hD
            refine bx (ls_rc hm2) (bx (ls_chance hm2 c2 hdu.1 hk.2.1 hk.2.2.2.2.2.1 hon) ?_)
            cases o with
            | none => exact ift (show (-1 : Int32) < 0 by decide) (hnext _ _)
            | some x =>
              have hx := hds x rfl
              have hcb := hdu.2.2
              refine iff_ (nI_pos (n := x.1) (by omega)) ?_
              by_cases hl : ls_ch v on < x.2
              · simp only [if_pos hl]
                exact iff_ (nI_ge (a := ls_ch v on) (b := x.2) hl (by omega)) (hnext _ _)
              · simp only [if_neg hl]
                exact ift (nI_le (a := x.2) (b := ls_ch v on) (by omega) (by omega)) (hnext _ _)
          by_cases hmd0 : md = 0
          · exact ift (show nI md = 0 by rw [hmd0]; decide) (go (Or.inl hmd0))
          · refine iff_ (nI_ne0 (by omega) (by omega)) (bx (ls_fR hm2 12 (by decide)) (bx (a := nI (σ 12 (480 * p + 4 * c + i))) (by rw [ls_ix, ← e12]; exact ls_aI hm2 12 (480 * p + 4 * c + i) (by decide) (show 480 * p + 4 * c + i < 1920 by omega)) ?_))
            by_cases hz : σ 12 (480 * p + 4 * c + i) = 0
            · exact ift (show nI (σ 12 (480 * p + 4 * c + i)) = 0 by rw [hz]; decide) (go (Or.inr hz))
            · rw [if_neg (fun q => q.2.elim hmd0 hz)] at hD
              subst hD
              exact iff_ (nI_ne0 (by omega) (by omega)) (hnext _ _)
        · rw [if_neg (fun q => hdu q.1)] at hD
          subst hD
          exact ift (if_neg hdu) (hnext _ _))
  exact ⟨M1, τ, hr, hm, hv, h45⟩
end
