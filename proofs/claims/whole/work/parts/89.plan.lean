/-- the side that is asked of a card, of its memories and marks -/
def ls_df (m : Nat → ls_V) (u : Nat → Nat) (on md : Nat) : Nat → Option (Nat × Nat)
  | 0 => none
  | k + 1 => if ls_due (m k) on ∧ (md = 0 ∨ u k = 0) then (match ls_df m u on md k with
    | none => some (k, ls_ch (m k) on)
    | some x => if ls_ch (m k) on < x.2 then some (k, ls_ch (m k) on) else some x) else ls_df m u on md k
theorem ls_ds_df {σ : ls_S} {b on md md2 : Nat} {m : Nat → ls_V} {u : Nat → Nat} : ∀ {k : Nat}, (∀ s, s < k → ls_at σ (b + s) = m s ∧ ((md = 0 ∨ σ 12 (b + s) = 0) ↔ (md2 = 0 ∨ u s = 0))) → ls_ds σ b on md k = ls_df m u on md2 k
  | 0, _ => rfl
  | k + 1, h => by
    have hk := h k (by omega)
    have ih := ls_ds_df (σ := σ) (b := b) (on := on) (md := md) (md2 := md2) (m := m) (u := u) (k := k) (fun s hs => h s (by omega))
    unfold ls_ds ls_df
    rw [ih, hk.1]
    by_cases hc : ls_due (m k) on ∧ (md2 = 0 ∨ u k = 0)
    · rw [if_pos hc, if_pos ⟨hc.1, hk.2.mpr hc.2⟩]
      all_goals (cases ls_df m u on md2 k <;> rfl)
    · rw [if_neg hc, if_neg (fun q => hc ⟨q.1, hk.2.mp q.2⟩)]
theorem ls_df_b (m : Nat → ls_V) (u : Nat → Nat) (on md : Nat) : ∀ k x, ls_df m u on md k = some x → x.1 < k
  | 0, x, h => by cases h
  | k + 1, x, h => by
    unfold ls_df at h
    split at h
    · cases hk : ls_df m u on md k with
      | none =>
        rw [hk] at h
        cases h
        exact Nat.lt_succ_self _
      | some y =>
        rw [hk] at h
        have := ls_df_b m u on md k y hk
        simp only at h
        split at h
        · cases h
          exact Nat.lt_succ_self _
        · cases h
          omega
    · have := ls_df_b m u on md k x h
      omega
/-- a card's memories after i days of a plan -/
def ls_pe (r b t k : Nat) (u : Nat → Nat) (m : Nat → ls_V) : Nat → Nat → ls_V
  | 0 => m
  | i + 1 => match ls_df (ls_pe r b t k u m i) u (t + i) (if i = 0 then 1 else 0) k with
    | none => ls_pe r b t k u m i
    | some x => fun s => if s = x.1 then ls_aB r b 2 (t + i) (ls_pe r b t k u m i s) else ls_pe r b t k u m i s
theorem ls_pe_n {r b t k : Nat} {u : Nat → Nat} {m : Nat → ls_V} {i : Nat} (h : ls_df (ls_pe r b t k u m i) u (t + i) (if i = 0 then 1 else 0) k = none) : ls_pe r b t k u m (i + 1) = ls_pe r b t k u m i := by
  show (match ls_df (ls_pe r b t k u m i) u (t + i) (if i = 0 then 1 else 0) k with
    | none => ls_pe r b t k u m i
    | some x => fun s => if s = x.1 then ls_aB r b 2 (t + i) (ls_pe r b t k u m i s) else ls_pe r b t k u m i s) = _
  rw [h]
theorem ls_pe_s {r b t k : Nat} {u : Nat → Nat} {m : Nat → ls_V} {i : Nat} {x : Nat × Nat} (h : ls_df (ls_pe r b t k u m i) u (t + i) (if i = 0 then 1 else 0) k = some x) (s : Nat) : ls_pe r b t k u m (i + 1) s = if s = x.1 then ls_aB r b 2 (t + i) (ls_pe r b t k u m i s) else ls_pe r b t k u m i s := by
  show (match ls_df (ls_pe r b t k u m i) u (t + i) (if i = 0 then 1 else 0) k with
    | none => ls_pe r b t k u m i
    | some x => fun s => if s = x.1 then ls_aB r b 2 (t + i) (ls_pe r b t k u m i s) else ls_pe r b t k u m i s) s = _
  rw [h]
theorem ls_pe_ok {r b t k K : Nat} {u : Nat → Nat} {m : Nat → ls_V} (hK : K < 100000) (h : ∀ s, s < k → ls_ok (m s) t ∧ (m s).2.2.2.2 ≤ K) : ∀ i s, s < k → ls_ok (ls_pe r b t k u m i s) (t + i) ∧ (ls_pe r b t k u m i s).2.2.2.2 ≤ K
  | 0, s, hs => h s hs
  | i + 1, s, hs => by
    obtain ⟨a, c⟩ := ls_pe_ok (r := r) (b := b) (u := u) hK h i s hs
    cases hd : ls_df (ls_pe r b t k u m i) u (t + i) (if i = 0 then 1 else 0) k with
    | none =>
      rw [ls_pe_n hd]
      exact ⟨ls_ok_up a (by omega), c⟩
    | some x =>
      rw [ls_pe_s hd s]
      split
      · exact ⟨ls_ok_up (ls_aB_ok a (by omega)).1 (by omega), by rw [ls_aB_5, if_neg (by omega)]; exact c⟩
      · exact ⟨ls_ok_up a (by omega), c⟩
/-- a card of a pupil after i days of a plan, and whether it is asked on the day i -/
abbrev ls_pE (σ : ls_S) (p c : Nat) : Nat → Nat → ls_V := ls_pe (σ 4 0) (σ 5 2) (σ 8 p) (σ 0 c) (fun s => σ 12 (480 * p + 4 * c + s)) (fun s => ls_at σ (480 * p + 4 * c + s))
abbrev ls_pD (σ : ls_S) (p c i : Nat) : Option (Nat × Nat) := ls_df (ls_pE σ p c i) (fun s => σ 12 (480 * p + 4 * c + s)) (σ 8 p + i) (if i = 0 then 1 else 0) (σ 0 c)
def ls_pA (σ : ls_S) (p i c : Nat) : Nat := match ls_pD σ p c i with
  | none => 0
  | some _ => 1
theorem ls_pA_b (σ : ls_S) (p i c : Nat) : ls_pA σ p i c ≤ 1 := by
  unfold ls_pA
  split <;> omega
section
variable {n k : Nat} {σ τ υ : ls_S} {B M M1 : mm_M}
theorem ls_pE_ok (hG : ls_G k σ) (hk : k ≤ 512) {p c : Nat} (hp : p < 4) (hc : c < σ 3 0) : ∀ i s, s < σ 0 c → ls_ok (ls_pE σ p c i s) (σ 8 p + i) ∧ (ls_pE σ p c i s).2.2.2.2 ≤ k := ls_pe_ok (by omega) (fun s hs => ⟨(ls_G_ok hG hp hc hs).1, by
    have h4 := (hG.1.2.1 c hc).2
    have h120 := hG.1.1
    have := (hG.2.2.2.2.2.2.2 p hp (4 * c + s) (by omega)).1
    rwa [← Nat.add_assoc] at this⟩)
/-- a trial's hand made a pupil's -/
theorem cl_handBecome (hs : ls_s σ τ) (h : lc n τ B M) (h1 : ls_O1 σ) (h7 : ls_O7 σ) {p c : Nat} (hp : p < 4) (hc : c < σ 3 0) : ∃ M1 τ1, f_X5_become M (some (lc_hd n M 4 c)) (some (lc_hd n M p c)) = some M1 ∧ ls_s σ τ1 ∧ lc n τ1 B M1 ∧ lc_sk M M1 ∧ ∀ s, s < σ 0 c → ls_at τ1 (480 * 4 + 4 * c + s) = ls_at σ (480 * p + 4 * c + s) ∧ τ1 12 (480 * 4 + 4 * c + s) = σ 12 (480 * p + 4 * c + s) := by
  have h4 := (h1.2.1 c hc).2
  have h120 := h1.1
  have np : p < 5 := by omega
  obtain ⟨M1, hr, τ1, a, b, c1, d⟩ := pe_cnt (body := fun x : mm_M × Int32 => f_X5_become_2 x.1 (some (lc_hd n M 4 c)) (some (lc_hd n M p c)) x.2) (x := (M, 0))
    (fun i x => ∃ M1 τ1, x = (M1, nI i) ∧ ls_s σ τ1 ∧ lc n τ1 B M1 ∧ lc_sk M M1 ∧ ∀ s, s < i → ls_at τ1 (480 * 4 + 4 * c + s) = ls_at σ (480 * p + 4 * c + s) ∧ τ1 12 (480 * 4 + 4 * c + s) = σ 12 (480 * p + 4 * c + s))
    (fun M1 => ∃ τ1, ls_s σ τ1 ∧ lc n τ1 B M1 ∧ lc_sk M M1 ∧ ∀ s, s < σ 0 c → ls_at τ1 (480 * 4 + 4 * c + s) = ls_at σ (480 * p + 4 * c + s) ∧ τ1 12 (480 * 4 + 4 * c + s) = σ 12 (480 * p + 4 * c + s)) (σ 0 c) ⟨M, τ, rfl, hs, h, lc_sk_rf M, fun s hs => absurd hs (Nat.not_lt_zero s)⟩ (by
      rintro i x hi ⟨M1, τ1, rfl, hs1, hl, hsk, hd⟩
      have e3 : τ1 3 0 = σ 3 0 := by rw [ls_s_f hs1 (f := 3) (by omega)]
      have e0 : τ1 0 = σ 0 := ls_s_f hs1 (by omega)
      have hc' : c < τ1 3 0 := by rw [e3]; exact hc
      have hi' : i < τ1 0 c := by rw [e0]; exact hi
      have n4 : (4 : Nat) < 5 := by omega
      have aq := lc_at_of hl np hc' hi'
      have a4 := lc_at_of hl n4 hc' hi'
      have hne : lc_mu n M1 p c i ≠ lc_mu n M1 4 c i := fun e => by have := (hl.1.2.2.2.2.1 p np c hc' i hi' 4 n4 c hc' i hi' e).1; omega
      obtain ⟨M2, f2, d2, A2⟩ := lc_become a4 aq hne
      have O1 := ls_s_O1 hs1 h1
      have h2 := lc_pt_of hl O1 n4 hc' hi' d2 A2
      have eq : ls_at τ1 (480 * p + 4 * c + i) = ls_at σ (480 * p + 4 * c + i) := ls_s_at hs1 (by omega)
      rw [eq] at h2
      have hs2 := ls_s_pt hs1 (Q := 480 * 4 + 4 * c + i) (by omega) (ls_at σ (480 * p + 4 * c + i))
      have k2 := lc_sk_df d2
      have O2 := ls_s_O1 hs2 h1
      have h3 := lc_wm h2 n4 (c := c) (s := i) (k := 5) (by rw [ls_pt_f _ _ _ (by omega)]; exact hc') (by rw [ls_pt_f _ _ _ (by omega)]; exact hi') (by omega) O2 (σ 12 (480 * p + 4 * c + i))
      rw [lc_sk_mu k2] at h3
      have h3 : lc n (mm_u (ls_pt τ1 (480 * 4 + 4 * c + i) (ls_at σ (480 * p + 4 * c + i))) 12 (480 * 4 + 4 * c + i) (σ 12 (480 * p + 4 * c + i))) B (mm_sI M2 (lc_mu n M1 4 c i) 5 (nI (σ 12 (480 * p + 4 * c + i)))) := h3
      have hs3 := ls_s_u hs2 (f := 12) (j := 480 * 4 + 4 * c + i) (σ 12 (480 * p + 4 * c + i)) (by omega)
      have b1 := h7.1 (480 * p + 4 * c + i) (by omega)
      have i5 : mm_I M2 (lc_mu n M1 p c i) 5 = nI (σ 12 (480 * p + 4 * c + i)) := by
        have q := h2.2.1.2.2.2.2.2.2.1 p np c (by rw [ls_pt_f _ _ _ (by omega)]; exact hc') i (by rw [ls_pt_f _ _ _ (by omega)]; exact hi') 5 (by omega)
        rw [lc_sk_mu k2] at q
        have q : mm_I M2 (lc_mu n M1 p c i) 5 = nI (ls_pt τ1 (480 * 4 + 4 * c + i) (ls_at σ (480 * p + 4 * c + i)) 12 (480 * p + 4 * c + i)) := q
        rw [ls_pt_f _ _ _ (by omega), hs1 12 _ (by omega)] at q
        exact q
      have kq2 : mm_k M2 (lc_mu n M1 p c i) = some (9, 0) := (lc_df_k d2 _).trans aq.1
      have k42 : mm_k M2 (lc_mu n M1 4 c i) = some (9, 0) := A2.1
      have h01 : nI (σ 12 (480 * p + 4 * c + i)) = 0 ∨ nI (σ 12 (480 * p + 4 * c + i)) = 1 := by
        have : σ 12 (480 * p + 4 * c + i) = 0 ∨ σ 12 (480 * p + 4 * c + i) = 1 := by omega
        rcases this with e | e
        · exact Or.inl (by rw [e]; rfl)
        · exact Or.inr (by rw [e]; rfl)
      have hc2 : c < ls_pt τ1 (480 * 4 + 4 * c + i) (ls_at σ (480 * p + 4 * c + i)) 3 0 := by rw [ls_pt_f _ _ _ (by omega)]; exact hc'
      have hi2 : i < ls_pt τ1 (480 * 4 + 4 * c + i) (ls_at σ (480 * p + 4 * c + i)) 0 c := by rw [ls_pt_f _ _ _ (by omega)]; exact hi'
      have hd4 : lc_hd n M2 4 c = lc_hd n M1 4 c := lc_sk_hd k2 4 c
      have hR2 := lc_hR h2 n4 hc2
      rw [hd4] at hR2
      have hA2 := lc_ha h2 n4 hc2 hi2 (by rw [ls_pt_f _ _ _ (by omega), e0]; exact h4)
      rw [lc_sk_mu k2] at hA2
      rw [← lc_sk_hd hsk, ← lc_sk_hd hsk]
      refine ⟨(_, nI (i + 1)), bx (lc_hR hl n4 hc') (bx (lc_hl hl n4 hc') (iff_ (show ¬ nI (τ1 0 c) ≤ nI i by rw [e0]; exact nI_ge hi (by omega)) (bx (lc_hrcd hl np hc') (bx (lc_memAt5 hl np hc' hi' (by rw [e0]; exact h4)) (iff_ (fun q => nomatch q) (bx (lc_hR hl n4 hc') (bx (lc_ha hl n4 hc' hi' (by rw [e0]; exact h4)) (bx (lc_hrc hl n4 hc' hi') (bx f2 (bx hR2 (bx hA2 (bx (pfI kq2 i5) (bx (pe_pZ 5 k42 h01) ?_))))))))))))), _, _, rfl, hs3, h3, lc_sk_tr hsk (lc_sk_tr k2 (lc_sk_I _ _ _ _)), fun s hs => ?_⟩
      · show some (Sum.inl (_, nI i + 1)) = _
        rw [nI_1]
      · have e : ls_at (mm_u (ls_pt τ1 (480 * 4 + 4 * c + i) (ls_at σ (480 * p + 4 * c + i))) 12 (480 * 4 + 4 * c + i) (σ 12 (480 * p + 4 * c + i))) (480 * 4 + 4 * c + s) = ls_at (ls_pt τ1 (480 * 4 + 4 * c + i) (ls_at σ (480 * p + 4 * c + i))) (480 * 4 + 4 * c + s) := rfl
        rw [e, ls_at_pt, mm_u]
        by_cases e2 : s = i
        · subst e2
          rw [if_pos rfl, if_pos ⟨rfl, rfl⟩]
          exact ⟨rfl, rfl⟩
        · rw [if_neg (by omega), if_neg (by omega), ls_pt_f _ _ _ (by omega)]
          exact hd s (by omega)) (by
      rintro x ⟨M1, τ1, rfl, hs1, hl, hsk, hd⟩
      have e3 : τ1 3 0 = σ 3 0 := by rw [ls_s_f hs1 (f := 3) (by omega)]
      have e0 : τ1 0 = σ 0 := ls_s_f hs1 (by omega)
      have hc' : c < τ1 3 0 := by rw [e3]; exact hc
      have n4 : (4 : Nat) < 5 := by omega
      rw [← lc_sk_hd hsk, ← lc_sk_hd hsk]
      exact ⟨M1, bx (lc_hR hl n4 hc') (bx (lc_hl hl n4 hc') (ift (show nI (τ1 0 c) ≤ nI (σ 0 c) by rw [e0]; exact nI_le (Nat.le_refl _) (by omega)) (mpx rfl))), τ1, hs1, hl, hsk, hd⟩)
  exact ⟨M1, τ1, hr, a, b, c1, d⟩
end
