/-- what is kept of the memories while a plan is made -/
def ls_kpt (τ : ls_S) (m : Nat → ls_V) (N : Nat) : Prop := ∀ q, q < N → τ 47 (5 * q) = (m q).1 + 1 ∧ τ 47 (5 * q + 1) = (m q).2.1 + 1 ∧ τ 47 (5 * q + 2) = (m q).2.2.1 + 1 ∧ τ 47 (5 * q + 3) = (m q).2.2.2.1 ∧ τ 47 (5 * q + 4) = (m q).2.2.2.2 + 1
section
variable {n k : Nat} {σ τ υ : ls_S} {B M M1 : mm_M}
theorem ls_ix7 (i : Nat) : 5 * nI i = nI (5 * i) := pk_mul 5 i
theorem ls_ix7a (i : Nat) {j : Nat} {z : Int32} (hz : z = nI j) : 5 * nI i + z = nI (5 * i + j) := by rw [ls_ix7, hz, nI_add]
theorem ls_prest (h : ls_M n τ B M) {p : Nat} (hp : p < 4) (v4 : Int32) {m : Nat → ls_V} (hk : ls_kpt τ m 480) : ∃ M1 τ1, f_X10_plan_247 M (some (n + 31)) (nI p) (some (ls_ad n 47)) v4 = some (v4, M1) ∧ ls_M n τ1 B M1 ∧ (∀ f, (f < 13 ∨ 17 < f) → τ1 f = τ f) ∧ (∀ q, q < 480 → ls_at τ1 (480 * p + q) = m q) ∧ ∀ q, (q < 480 * p ∨ 480 * p + 480 ≤ q) → ls_at τ1 q = ls_at τ q := by
  obtain ⟨y, hy, M1, τ1, rfl, a, b, c, d⟩ := pe_cnt (body := fun x : mm_M × Int32 => f_X10_plan_250 x.1 (some (n + 31)) (nI p) (some (ls_ad n 47)) v4 x.2) (x := (M, 0))
    (fun i x => ∃ M1 τ1, x = (M1, nI i) ∧ ls_M n τ1 B M1 ∧ (∀ f, (f < 13 ∨ 17 < f) → τ1 f = τ f) ∧ (∀ q, q < i → ls_at τ1 (480 * p + q) = m q) ∧ ∀ q, (q < 480 * p ∨ 480 * p + 480 ≤ q) → ls_at τ1 q = ls_at τ q)
    (fun y => ∃ M1 τ1, y = (v4, M1) ∧ ls_M n τ1 B M1 ∧ (∀ f, (f < 13 ∨ 17 < f) → τ1 f = τ f) ∧ (∀ q, q < 480 → ls_at τ1 (480 * p + q) = m q) ∧ ∀ q, (q < 480 * p ∨ 480 * p + 480 ≤ q) → ls_at τ1 q = ls_at τ q) 480 ⟨M, τ, rfl, h, fun _ _ => rfl, fun q hq => absurd hq (Nat.not_lt_zero q), fun _ _ => rfl⟩ (by
      rintro i x hi ⟨M1, τ1, rfl, hm, he, hd, ho⟩
      obtain ⟨q0, q1, q2, q3, q4⟩ := hk i hi
      have hQ : 480 * p + i < 1920 := by omega
      have eQ : nI p * 480 + nI i = nI (480 * p + i) := ls_ix2 p i
      have x1 : 5 * nI i + 1 = nI (5 * i + 1) := ls_ix7a i (j := 1) rfl
      have x2 : 5 * nI i + 2 = nI (5 * i + 2) := ls_ix7a i (j := 2) rfl
      have x3 : 5 * nI i + 3 = nI (5 * i + 3) := ls_ix7a i (j := 3) rfl
      have x4 : 5 * nI i + 4 = nI (5 * i + 4) := ls_ix7a i (j := 4) rfl
      have e47 : τ1 47 = τ 47 := he 47 (by omega)
      obtain ⟨M2, f2, h2⟩ := ls_tI hm 13 (480 * p + i) (m i).1 (by decide) rfl hQ
      obtain ⟨M3, f3, h3⟩ := ls_tI h2 14 (480 * p + i) (m i).2.1 (by decide) rfl hQ
      obtain ⟨M4, f4, h4⟩ := ls_tI h3 15 (480 * p + i) (m i).2.2.1 (by decide) rfl hQ
      obtain ⟨M5, f5, h5⟩ := ls_tI h4 16 (480 * p + i) (m i).2.2.2.1 (by decide) rfl hQ
      obtain ⟨M6, f6, h6⟩ := ls_tI h5 17 (480 * p + i) (m i).2.2.2.2 (by decide) rfl hQ
      have a0 : mm_aI M1 (some (ls_ad n 47)) 12 (nI (5 * i)) = some (nI (m i).1) := by
        have z := ls_aI hm 47 (5 * i) (by decide) (show 5 * i < 2400 by omega)
        rw [e47, q0] at z
        have z : mm_aI M1 (some (ls_ad n 47)) 12 (nI (5 * i)) = some (nI ((m i).1 + 1) - 1) := z
        rw [nI_pred] at z
        exact z
      have a1 : mm_aI M2 (some (ls_ad n 47)) 12 (nI (5 * i + 1)) = some (nI (m i).2.1) := by
        have z := ls_aI h2 47 (5 * i + 1) (by decide) (show 5 * i + 1 < 2400 by omega)
        rw [mm_u, if_neg (by omega), e47, q1] at z
        have z : mm_aI M2 (some (ls_ad n 47)) 12 (nI (5 * i + 1)) = some (nI ((m i).2.1 + 1) - 1) := z
        rw [nI_pred] at z
        exact z
      have a2 : mm_aI M3 (some (ls_ad n 47)) 12 (nI (5 * i + 2)) = some (nI (m i).2.2.1) := by
        have z := ls_aI h3 47 (5 * i + 2) (by decide) (show 5 * i + 2 < 2400 by omega)
        rw [mm_u, if_neg (by omega), mm_u, if_neg (by omega), e47, q2] at z
        have z : mm_aI M3 (some (ls_ad n 47)) 12 (nI (5 * i + 2)) = some (nI ((m i).2.2.1 + 1) - 1) := z
        rw [nI_pred] at z
        exact z
      have a3 : mm_aI M4 (some (ls_ad n 47)) 12 (nI (5 * i + 3)) = some (ls_en 16 (m i).2.2.2.1) := by
        have z := ls_aI h4 47 (5 * i + 3) (by decide) (show 5 * i + 3 < 2400 by omega)
        rw [mm_u, if_neg (by omega), mm_u, if_neg (by omega), mm_u, if_neg (by omega), e47, q3] at z
        exact z
      have a4 : mm_aI M5 (some (ls_ad n 47)) 12 (nI (5 * i + 4)) = some (nI (m i).2.2.2.2) := by
        have z := ls_aI h5 47 (5 * i + 4) (by decide) (show 5 * i + 4 < 2400 by omega)
        rw [mm_u, if_neg (by omega), mm_u, if_neg (by omega), mm_u, if_neg (by omega), mm_u, if_neg (by omega), e47, q4] at z
        have z : mm_aI M5 (some (ls_ad n 47)) 12 (nI (5 * i + 4)) = some (nI ((m i).2.2.2.2 + 1) - 1) := z
        rw [nI_pred] at z
        exact z
      have h6 : ls_M n (ls_pt τ1 (480 * p + i) (m i)) B M6 := h6
      refine ⟨(M6, nI (i + 1)), iff_ (nI_ge (b := 480) hi (by omega)) (bx (ls_fR hm 13 (by decide)) (bx (a := nI (m i).1) (by rw [ls_ix7]; exact a0) (bx (a := M2) (by rw [eQ]; exact f2) (bx (ls_fR h2 14 (by decide)) (bx (a := nI (m i).2.1) (by show mm_aI M2 _ 12 (5 * nI i + 1) = _; rw [x1]; exact a1) (bx (a := M3) (by rw [eQ]; exact f3) (bx (ls_fR h3 15 (by decide)) (bx (a := nI (m i).2.2.1) (by show mm_aI M3 _ 12 (5 * nI i + 2) = _; rw [x2]; exact a2) (bx (a := M4) (by rw [eQ]; exact f4) (bx (ls_fR h4 16 (by decide)) (bx (a := ls_en 16 (m i).2.2.2.1) (by show mm_aI M4 _ 12 (5 * nI i + 3) = _; rw [x3]; exact a3) (bx (a := M5) (by rw [eQ]; exact f5) (bx (ls_fR h5 17 (by decide)) (bx (a := nI (m i).2.2.2.2) (by show mm_aI M5 _ 12 (5 * nI i + 4) = _; rw [x4]; exact a4) (bx (a := M6) (by rw [eQ]; exact f6) ?_))))))))))))))), M6, _, rfl, h6, fun f hf => (ls_pt_f _ _ _ hf).trans (he f hf), fun q hq => ?_, fun q hq => ?_⟩
      · show some (Sum.inl (M6, nI i + 1)) = _
        rw [nI_1]
      · rw [ls_at_pt]
        by_cases e : q = i
        · rw [if_pos (by omega), e]
        · rw [if_neg (by omega)]; exact hd q (by omega)
      · rw [ls_at_pt, if_neg (by omega)]; exact ho q hq) (by
      rintro x ⟨M1, τ1, rfl, hm, he, hd, ho⟩
      exact ⟨_, ift (nI_le (a := 480) (Nat.le_refl _) (by omega)) (mpx rfl), M1, τ1, rfl, hm, he, hd, ho⟩)
  exact ⟨M1, τ1, hy, a, b, c, d⟩
/-- the state of a plan: card c has lived through dy c days -/
def ls_pq (σ τ : ls_S) (p : Nat) (dy : Nat → Nat) : Prop := (∀ f, (f < 13 ∨ (17 < f ∧ f < 29) ∨ 33 < f) → f ≠ 45 → τ f = σ f) ∧ (∀ c, c < σ 3 0 → ∀ s, s < σ 0 c → ls_at τ (480 * p + 4 * c + s) = ls_pE σ p c (dy c) s) ∧ ∀ q, (q < 480 * p ∨ 480 * p + 480 ≤ q) → ls_at τ q = ls_at σ q
theorem ls_pday (h : ls_M n τ B M) (hG : ls_G k σ) (hk : k ≤ 512) {p d N : Nat} (hp : p < 4) (hd : d ≤ 59) (v3 : Option Nat) (hq : ls_pq σ τ p (fun _ => d)) : ∃ M1 τ1, f_X10_plan_136 M (some (n + 31)) (nI p) (nI N) v3 (nI d) = some (.inl (M1, nI (ls_sm (ls_pA σ p d) (σ 3 0)), nI (d + 1))) ∧ ls_M n τ1 B M1 ∧ ls_pq σ τ1 p (fun _ => d + 1) := by
  have h1 := hG.1
  have h120 := h1.1
  have t5 := hG.2.1.2.2.2.2 p hp
  have h7 := hG.2.2.2.2.2.2.1
  have r8 : mm_aI M (some (ls_ad n 8)) 12 (nI p) = some (nI (σ 8 p)) := by
    have z := ls_aI h 8 p (by decide) hp
    rw [hq.1 8 (by omega) (by omega)] at z
    exact z
  have eon : nI (σ 8 p) + nI d = nI (σ 8 p + d) := nI_add _ _
  obtain ⟨y, hy, M1, τ1, rfl, a, b⟩ := pe_cnt (body := fun x : mm_M × Int32 × Int32 => f_X10_plan_153 x.1 (some (n + 31)) (nI p) (nI N) v3 x.2.1 (nI d) (nI (σ 8 p + d)) x.2.2) (x := (M, 0, 0))
    (fun c x => ∃ M1 τ1, x = (M1, nI (ls_sm (ls_pA σ p d) c), nI c) ∧ ls_M n τ1 B M1 ∧ ls_pq σ τ1 p (fun c' => if c' < c then d + 1 else d))
    (fun y => ∃ M1 τ1, y = .inl (M1, nI (ls_sm (ls_pA σ p d) (σ 3 0)), nI (d + 1)) ∧ ls_M n τ1 B M1 ∧ ls_pq σ τ1 p (fun _ => d + 1)) (σ 3 0) ⟨M, τ, rfl, h, hq⟩ (by
      rintro c x hc ⟨M1, τ1, rfl, hm, hq1⟩
      have h4 := (h1.2.1 c hc).2
      have e := fun {f} (hf : f < 13 ∨ (17 < f ∧ f < 29) ∨ 33 < f) (h45 : f ≠ 45) => hq1.1 f hf h45
      have O1 : ls_O1 τ1 := by
        unfold ls_O1
        rw [e (f := 0) (by omega) (by omega), e (f := 1) (by omega) (by omega), e (f := 2) (by omega) (by omega), e (f := 3) (by omega) (by omega)]
        exact h1
      have e3 : τ1 3 0 = σ 3 0 := by rw [e (f := 3) (by omega) (by omega)]
      have e0 : τ1 0 c = σ 0 c := by rw [e (f := 0) (by omega) (by omega)]
      have hat : ∀ s, s < σ 0 c → ls_at τ1 (480 * p + 4 * c + s) = ls_pE σ p c d s := fun s hs => by
        have z : ls_at τ1 (480 * p + 4 * c + s) = ls_pE σ p c (if c < c then d + 1 else d) s := hq1.2.1 c hc s hs
        rw [if_neg (Nat.lt_irrefl c)] at z
        exact z
      have hok := ls_pE_ok hG hk hp hc d
      have b12 : ∀ s, τ1 12 (480 * p + 4 * c + s) = σ 12 (480 * p + 4 * c + s) := fun s => by rw [e (f := 12) (by omega) (by omega)]
      obtain ⟨md, hmd, emd⟩ : ∃ md, md ≤ 1 ∧ md = if d = 0 then 1 else 0 := ⟨_, by split <;> omega, rfl⟩
      obtain ⟨M2, τ2, f2, h2, v2, -⟩ := ls_dueSide hm O1 (p := p) (c := c) (on := σ 8 p + d) (md := md) hp (by rw [e3]; exact hc) (by omega) hmd (fun s hs => by rw [e0] at hs; rw [hat s hs]; exact (hok s hs).1) (fun s hs => by rw [e0] at hs; rw [b12]; exact h7.1 _ (by omega))
      have ed : ls_ds τ1 (480 * p + 4 * c) (σ 8 p + d) md (τ1 0 c) = ls_pD σ p c d := by
        rw [e0, emd]
        exact ls_ds_df (fun s hs => ⟨hat s hs, by rw [b12]⟩)
      rw [ed] at f2
      have pre : ∀ {r}, (if ls_d1 (ls_pD σ p c d) < 0 then f_X10_plan_235 M2 (some (n + 31)) (nI p) (nI N) v3 (nI (ls_sm (ls_pA σ p d) c)) (nI d) (nI (σ 8 p + d)) (nI c) else f_X10_plan_188 M2 (some (n + 31)) (nI p) (nI N) v3 (nI (ls_sm (ls_pA σ p d) c)) (nI d) (nI (σ 8 p + d)) (nI c) (ls_d1 (ls_pD σ p c d))) = r → f_X10_plan_153 M1 (some (n + 31)) (nI p) (nI N) v3 (nI (ls_sm (ls_pA σ p d) c)) (nI d) (nI (σ 8 p + d)) (nI c) = r := fun {r} q => bx (ls_fI hm 3 (by decide)) (iff_ (show ¬ nI (τ1 3 0) ≤ nI c by rw [e3]; exact nI_ge hc (by omega)) (by
        by_cases hd0 : d = 0
        · rw [if_pos hd0] at emd
          subst emd
          exact ift (by rw [hd0]; rfl) (bx (ls_rc hm) (b2x f2 q))
        · rw [if_neg hd0] at emd
          subst emd
          exact iff_ (nI_ne0 (by omega) (by omega)) (bx (ls_rc hm) (b2x f2 q))))
      have hn : ∀ (M3 : mm_M) (u : Int32), f_X10_plan_235 M3 (some (n + 31)) (nI p) (nI N) v3 u (nI d) (nI (σ 8 p + d)) (nI c) = some (.inl (M3, u, nI (c + 1))) := fun M3 u => by
        show some (Sum.inl (M3, u, nI c + 1)) = _
        rw [nI_1]
      cases hD : ls_pD σ p c d with
      | none =>
        rw [hD] at pre
        have hA : ls_pA σ p d c = 0 := by unfold ls_pA; rw [hD]
        refine ⟨(M2, nI (ls_sm (ls_pA σ p d) c), nI (c + 1)), pre (ift (by decide) (hn _ _)), M2, τ2, by show _ = (M2, nI (ls_sm (ls_pA σ p d) c + ls_pA σ p d c), nI (c + 1)); rw [hA]; rfl, h2, ⟨fun f hf h45 => (ls_vf v2 (by omega) h45).trans (hq1.1 f hf h45), fun c2 hc2 s hs => ?_, fun q hq => (ls_v_at v2 q).trans (hq1.2.2 q hq)⟩⟩
        rw [ls_v_at v2]
        by_cases e2 : c2 = c
        · subst e2
          show _ = ls_pE σ p c2 (if c2 < c2 + 1 then d + 1 else d) s
          rw [if_pos (by omega), show ls_pE σ p c2 (d + 1) = ls_pE σ p c2 d from ls_pe_n hD]
          exact hat s hs
        · have z : ls_at τ1 (480 * p + 4 * c2 + s) = ls_pE σ p c2 (if c2 < c then d + 1 else d) s := hq1.2.1 c2 hc2 s hs
          show _ = ls_pE σ p c2 (if c2 < c + 1 then d + 1 else d) s
          by_cases e4 : c2 < c
          · rw [if_pos e4] at z
            rw [if_pos (by omega)]; exact z
          · rw [if_neg e4] at z
            rw [if_neg (by omega)]; exact z
      | some x =>
        rw [hD] at pre
        have hx := ls_df_b _ _ _ _ _ _ hD
        have hA : ls_pA σ p d c = 1 := by unfold ls_pA; rw [hD]
        have hQ : 480 * p + 4 * c + x.1 < 1920 := by omega
        obtain ⟨M3, τ3, f3, h3, v3', c3⟩ := ls_take h2 hQ
        rw [ls_v_at v2, hat _ hx] at c3
        have v23 := ls_v_tr v2 v3'
        have e' := fun {f} (hf : f < 13 ∨ (17 < f ∧ f < 29) ∨ 33 < f) (h45 : f ≠ 45) => (ls_vf v23 (f := f) (by omega) h45).trans (hq1.1 f hf h45)
        have r4 : mm_fI M3 (some (n + 31)) 11 4 = some (nI (σ 4 0)) := by have z := ls_fI h3 4 (by decide); rw [e' (by omega) (by omega)] at z; exact z
        have r5 : mm_aI M3 (some (ls_ad n 5)) 12 2 = some (nI (σ 5 2)) := by have z := ls_aI h3 5 2 (by decide) (show 2 < 4 by omega); rw [e' (by omega) (by omega)] at z; exact z
        obtain ⟨M4, τ4, f4, h4', v4, c4⟩ := ls_answerBy h3 c3 (r := σ 4 0) (b := σ 5 2) (a := 2) (on := σ 8 p + d) hG.2.1.1 (hG.2.1.2.1 2 (by omega)) (by omega) (hok _ hx).1 (by omega)
        obtain ⟨M5, f5, h5⟩ := ls_give h4' hQ
        rw [c4] at h5
        have v24 := ls_v_tr v23 v4
        refine ⟨(M5, nI (ls_sm (ls_pA σ p d) (c + 1)), nI (c + 1)), pre (iff_ (nI_pos (n := x.1) (by omega)) (bx (ls_rc h2) (bx (a := M3) (by show f_X10_take M2 _ (nI p * 480 + 4 * nI c + nI x.1) = _; rw [ls_ix]; exact f3) (bx r4 (bx (ls_fR h3 5 (by decide)) (bx r5 (bx (ls_rc h3) (bx f4 (bx (ls_rc h4') (bx (a := M5) (by show f_X10_give M4 _ (nI p * 480 + 4 * nI c + nI x.1) = _; rw [ls_ix]; exact f5) ?_)))))))))), M5, _, rfl, h5, ⟨fun f hf h45 => (ls_pt_f _ _ _ (by omega)).trans ((ls_vf v24 (by omega) h45).trans (hq1.1 f hf h45)), fun c2 hc2 s hs => ?_, fun q hq => ?_⟩⟩
        · refine (hn _ _).trans ?_
          rw [nI_1]
          show _ = some (Sum.inl (M5, nI (ls_sm (ls_pA σ p d) c + ls_pA σ p d c), nI (c + 1)))
          rw [hA]
        · have h42 := (h1.2.1 c2 hc2).2
          rw [ls_at_pt, ls_v_at v24]
          show _ = ls_pE σ p c2 (if c2 < c + 1 then d + 1 else d) s
          by_cases e2 : c2 = c
          · subst e2
            rw [if_pos (show c2 < c2 + 1 by omega), show ls_pE σ p c2 (d + 1) s = _ from ls_pe_s hD s]
            by_cases e6 : s = x.1
            · rw [if_pos (by omega), if_pos e6, e6]
            · rw [if_neg (by omega), if_neg e6]; exact hat s hs
          · have z : ls_at τ1 (480 * p + 4 * c2 + s) = ls_pE σ p c2 (if c2 < c then d + 1 else d) s := hq1.2.1 c2 hc2 s hs
            rw [if_neg (by omega)]
            by_cases e4 : c2 < c
            · rw [if_pos e4] at z
              rw [if_pos (by omega)]; exact z
            · rw [if_neg e4] at z
              rw [if_neg (by omega)]; exact z
        · rw [ls_at_pt, if_neg (by omega), ls_v_at v24]; exact hq1.2.2 q hq) (by
      rintro x ⟨M1, τ1, rfl, hm, hq1⟩
      have e3 : τ1 3 0 = σ 3 0 := by rw [hq1.1 3 (by omega) (by omega)]
      refine ⟨_, bx (ls_fI hm 3 (by decide)) (ift (show nI (τ1 3 0) ≤ nI (σ 3 0) by rw [e3]; exact nI_le (Nat.le_refl _) (by omega)) (mpx (show f_X10_plan_241 M1 (some (n + 31)) (nI p) (nI N) v3 (nI (ls_sm (ls_pA σ p d) (σ 3 0))) (nI d) = some (Sum.inl (M1, nI (ls_sm (ls_pA σ p d) (σ 3 0)), nI d + 1)) from rfl))), M1, τ1, by rw [nI_1], hm, hq1.1, fun c hc s hs => ?_, hq1.2.2⟩
      have z : ls_at τ1 (480 * p + 4 * c + s) = ls_pE σ p c (if c < σ 3 0 then d + 1 else d) s := hq1.2.1 c hc s hs
      rw [if_pos hc] at z
      exact z)
  exact ⟨M1, τ1, bx (ls_fR h 8 (by decide)) (bx r8 (by rw [eon]; exact hy)), a, b⟩
theorem ls_pdays (h : ls_M n σ B M) (hG : ls_G k σ) (hk : k ≤ 512) {p N : Nat} (hp : p < 4) (hN : N ≤ 59) {m : Nat → ls_V} (hkp : ls_kpt σ m 480) : ∃ M1 τ1, f_X10_plan_124 M (some (n + 31)) (nI p) (nI N) (some (ls_ad n 47)) = some (nI (ls_sm (ls_pA σ p N) (σ 3 0)), M1) ∧ ls_M n τ1 B M1 ∧ (∀ f, (f < 13 ∨ (17 < f ∧ f < 29) ∨ 33 < f) → f ≠ 45 → τ1 f = σ f) ∧ (∀ q, q < 480 → ls_at τ1 (480 * p + q) = m q) ∧ ∀ q, (q < 480 * p ∨ 480 * p + 480 ≤ q) → ls_at τ1 q = ls_at σ q := by
  obtain ⟨y, hy, M1, τ1, rfl, a, b, c, d⟩ := pe_cnt (body := fun x : mm_M × Int32 × Int32 => f_X10_plan_130 x.1 (some (n + 31)) (nI p) (nI N) (some (ls_ad n 47)) x.2.1 x.2.2) (x := (M, 0, 0))
    (fun d x => ∃ M1 τ1 v, x = (M1, nI v, nI d) ∧ (∀ j, d = j + 1 → v = ls_sm (ls_pA σ p j) (σ 3 0)) ∧ ls_M n τ1 B M1 ∧ ls_pq σ τ1 p (fun _ => d))
    (fun y => ∃ M1 τ1, y = (nI (ls_sm (ls_pA σ p N) (σ 3 0)), M1) ∧ ls_M n τ1 B M1 ∧ (∀ f, (f < 13 ∨ (17 < f ∧ f < 29) ∨ 33 < f) → f ≠ 45 → τ1 f = σ f) ∧ (∀ q, q < 480 → ls_at τ1 (480 * p + q) = m q) ∧ ∀ q, (q < 480 * p ∨ 480 * p + 480 ≤ q) → ls_at τ1 q = ls_at σ q) (N + 1) ⟨M, σ, 0, rfl, fun j hj => by omega, h, ⟨fun _ _ _ => rfl, fun _ _ _ _ => rfl, fun _ _ => rfl⟩⟩ (by
      rintro i x hi ⟨M1, τ1, v, rfl, hv, hm, hq⟩
      obtain ⟨M2, τ2, f2, h2, q2⟩ := ls_pday hm hG hk (N := N) hp (by omega) (some (ls_ad n 47)) hq
      exact ⟨_, iff_ (nI_nlt (a := N) (b := i) (by omega) (by omega)) f2, M2, τ2, _, rfl, fun j hj => by rw [show j = i by omega], h2, q2⟩) (by
      rintro x ⟨M1, τ1, v, rfl, hv, hm, hq⟩
      have ev := hv N rfl
      subst ev
      obtain ⟨M2, τ2, f2, h2, e2, d2, o2⟩ := ls_prest hm hp (nI (ls_sm (ls_pA σ p N) (σ 3 0))) (m := m) (by
        unfold ls_kpt
        rw [hq.1 47 (by omega) (by omega)]
        exact hkp)
      exact ⟨_, ift (nI_lt (a := N) (b := N + 1) (by omega) (by omega)) (mpx f2), M2, τ2, rfl, h2, fun f hf h45 => (e2 f (by omega)).trans (hq.1 f hf h45), d2, fun q hq2 => (o2 q hq2).trans (hq.2.2 q hq2)⟩)
  exact ⟨M1, τ1, hy, a, b, c, d⟩
theorem ls_pA_c (h : ∀ f, f ≠ 47 → τ f = σ f) (p i c : Nat) : ls_pA τ p i c = ls_pA σ p i c := by
  simp only [ls_pA, ls_pD, ls_pE, ls_at, h 0 (by omega), h 4 (by omega), h 5 (by omega), h 8 (by omega), h 12 (by omega), h 13 (by omega), h 14 (by omega), h 15 (by omega), h 16 (by omega), h 17 (by omega)]
theorem ls_planM (h : ls_M n σ B M) (hG : ls_G k σ) (hk : k ≤ 512) {p N : Nat} (hp : p < 4) (hN : N ≤ 59) : ∃ M1 τ, f_X10_plan_19 M (some (n + 31)) (nI p) (nI N) = some (nI (ls_sm (ls_pA σ p N) (σ 3 0)), M1) ∧ ls_M n τ B M1 ∧ ∀ f j, (f < 29 ∨ (34 < f ∧ f < 44)) → (f < 11 ∨ 17 < f ∨ j < 1920) → τ f j = σ f j := by
  obtain ⟨y, hy, M1, τ1, rfl, a, b⟩ := pe_cnt (body := fun x : mm_M × Int32 => f_X10_plan_27 x.1 (some (n + 31)) (nI p) (nI N) (some (ls_ad n 47)) x.2) (x := (M, 0))
    (fun i x => ∃ M1 τ, x = (M1, nI i) ∧ ls_M n τ B M1 ∧ (∀ f, f ≠ 47 → τ f = σ f) ∧ ls_kpt τ (fun q => ls_at σ (480 * p + q)) i)
    (fun y => ∃ M1 τ, y = (nI (ls_sm (ls_pA σ p N) (σ 3 0)), M1) ∧ ls_M n τ B M1 ∧ ∀ f j, (f < 29 ∨ (34 < f ∧ f < 44)) → (f < 11 ∨ 17 < f ∨ j < 1920) → τ f j = σ f j) 480 ⟨M, σ, rfl, h, fun _ _ => rfl, fun q hq => absurd hq (Nat.not_lt_zero q)⟩ (by
      rintro i x hi ⟨M1, τ, rfl, hm, he, hkp⟩
      have hQ : 480 * p + i < 1920 := by omega
      have eQ : nI p * 480 + nI i = nI (480 * p + i) := ls_ix2 p i
      have x1 : 5 * nI i + 1 = nI (5 * i + 1) := ls_ix7a i (j := 1) rfl
      have x2 : 5 * nI i + 2 = nI (5 * i + 2) := ls_ix7a i (j := 2) rfl
      have x3 : 5 * nI i + 3 = nI (5 * i + 3) := ls_ix7a i (j := 3) rfl
      have x4 : 5 * nI i + 4 = nI (5 * i + 4) := ls_ix7a i (j := 4) rfl
      obtain ⟨M2, f2, h2⟩ := ls_tI hm 47 (5 * i) (σ 13 (480 * p + i) + 1) (by decide) rfl (show 5 * i < 2400 by omega)
      obtain ⟨M3, f3, h3⟩ := ls_tI h2 47 (5 * i + 1) (σ 14 (480 * p + i) + 1) (by decide) rfl (show 5 * i + 1 < 2400 by omega)
      obtain ⟨M4, f4, h4⟩ := ls_tI h3 47 (5 * i + 2) (σ 15 (480 * p + i) + 1) (by decide) rfl (show 5 * i + 2 < 2400 by omega)
      obtain ⟨M5, f5, h5⟩ := ls_tI h4 47 (5 * i + 3) (σ 16 (480 * p + i)) (by decide) rfl (show 5 * i + 3 < 2400 by omega)
      obtain ⟨M6, f6, h6⟩ := ls_tI h5 47 (5 * i + 4) (σ 17 (480 * p + i) + 1) (by decide) rfl (show 5 * i + 4 < 2400 by omega)
      have n47 : ∀ {υ : ls_S} (f j v : Nat), f ≠ 47 → mm_u υ 47 j v f = υ f := fun f j v hf => by
        funext i
        rw [mm_u, if_neg (fun q => hf q.1)]
      have g2 : mm_tI M1 (some (ls_ad n 47)) (nI (5 * i)) (nI (σ 13 (480 * p + i))) = some M2 := by rw [← nI_pred (σ 13 (480 * p + i))]; exact f2
      have g3 : mm_tI M2 (some (ls_ad n 47)) (nI (5 * i + 1)) (nI (σ 14 (480 * p + i))) = some M3 := by rw [← nI_pred (σ 14 (480 * p + i))]; exact f3
      have g4 : mm_tI M3 (some (ls_ad n 47)) (nI (5 * i + 2)) (nI (σ 15 (480 * p + i))) = some M4 := by rw [← nI_pred (σ 15 (480 * p + i))]; exact f4
      have g6 : mm_tI M5 (some (ls_ad n 47)) (nI (5 * i + 4)) (nI (σ 17 (480 * p + i))) = some M6 := by rw [← nI_pred (σ 17 (480 * p + i))]; exact f6
      have a0 : mm_aI M1 (some (ls_ad n 13)) 12 (nI (480 * p + i)) = some (nI (σ 13 (480 * p + i))) := by have z := ls_aI hm 13 (480 * p + i) (by decide) hQ; rw [he 13 (by omega)] at z; exact z
      have a1 : mm_aI M2 (some (ls_ad n 14)) 12 (nI (480 * p + i)) = some (nI (σ 14 (480 * p + i))) := by have z := ls_aI h2 14 (480 * p + i) (by decide) hQ; rw [n47 14 _ _ (by omega), he 14 (by omega)] at z; exact z
      have a2 : mm_aI M3 (some (ls_ad n 15)) 12 (nI (480 * p + i)) = some (nI (σ 15 (480 * p + i))) := by have z := ls_aI h3 15 (480 * p + i) (by decide) hQ; rw [n47 15 _ _ (by omega), n47 15 _ _ (by omega), he 15 (by omega)] at z; exact z
      have a3 : mm_aI M4 (some (ls_ad n 16)) 12 (nI (480 * p + i)) = some (ls_en 47 (σ 16 (480 * p + i))) := by have z := ls_aI h4 16 (480 * p + i) (by decide) hQ; rw [n47 16 _ _ (by omega), n47 16 _ _ (by omega), n47 16 _ _ (by omega), he 16 (by omega)] at z; exact z
      have a4 : mm_aI M5 (some (ls_ad n 17)) 12 (nI (480 * p + i)) = some (nI (σ 17 (480 * p + i))) := by have z := ls_aI h5 17 (480 * p + i) (by decide) hQ; rw [n47 17 _ _ (by omega), n47 17 _ _ (by omega), n47 17 _ _ (by omega), n47 17 _ _ (by omega), he 17 (by omega)] at z; exact z
      refine ⟨(M6, nI (i + 1)), iff_ (nI_ge (b := 480) hi (by omega)) (bx (ls_fR hm 13 (by decide)) (bx (a := nI (σ 13 (480 * p + i))) (by rw [eQ]; exact a0) (bx (a := M2) (by rw [ls_ix7]; exact g2) (bx (ls_fR h2 14 (by decide)) (bx (a := nI (σ 14 (480 * p + i))) (by rw [eQ]; exact a1) (bx (a := M3) (by show mm_tI M2 _ (5 * nI i + 1) (nI (σ 14 (480 * p + i))) = _; rw [x1]; exact g3) (bx (ls_fR h3 15 (by decide)) (bx (a := nI (σ 15 (480 * p + i))) (by rw [eQ]; exact a2) (bx (a := M4) (by show mm_tI M3 _ (5 * nI i + 2) (nI (σ 15 (480 * p + i))) = _; rw [x2]; exact g4) (bx (ls_fR h4 16 (by decide)) (bx (a := ls_en 47 (σ 16 (480 * p + i))) (by rw [eQ]; exact a3) (bx (a := M5) (by show mm_tI M4 _ (5 * nI i + 3) (ls_en 47 (σ 16 (480 * p + i))) = _; rw [x3]; exact f5) (bx (ls_fR h5 17 (by decide)) (bx (a := nI (σ 17 (480 * p + i))) (by rw [eQ]; exact a4) (bx (a := M6) (by show mm_tI M5 _ (5 * nI i + 4) (nI (σ 17 (480 * p + i))) = _; rw [x4]; exact g6) ?_))))))))))))))), M6, _, rfl, h6, fun f hf => by rw [n47 f _ _ hf, n47 f _ _ hf, n47 f _ _ hf, n47 f _ _ hf, n47 f _ _ hf]; exact he f hf, fun q hq => ?_⟩
      · show some (Sum.inl (M6, nI i + 1)) = _
        rw [nI_1]
      · have nn : ∀ (υ : ls_S) (a v b : Nat), b ≠ a → mm_u υ 47 a v 47 b = υ 47 b := fun υ a v b h => by rw [mm_u, if_neg (fun z => h z.2)]
        have ny : ∀ (υ : ls_S) (a v : Nat), mm_u υ 47 a v 47 a = v := fun υ a v => by rw [mm_u, if_pos ⟨rfl, rfl⟩]
        by_cases e : q = i
        · subst e
          refine ⟨?_, ?_, ?_, ?_, ?_⟩
          · rw [nn _ _ _ _ (by omega), nn _ _ _ _ (by omega), nn _ _ _ _ (by omega), nn _ _ _ _ (by omega), ny]; rfl
          · rw [nn _ _ _ _ (by omega), nn _ _ _ _ (by omega), nn _ _ _ _ (by omega), ny]; rfl
          · rw [nn _ _ _ _ (by omega), nn _ _ _ _ (by omega), ny]; rfl
          · rw [nn _ _ _ _ (by omega), ny]; rfl
          · rw [ny]; rfl
        · obtain ⟨b0, b1, b2, b3, b4⟩ := hkp q (by omega)
          refine ⟨?_, ?_, ?_, ?_, ?_⟩
          · rw [nn _ _ _ _ (by omega), nn _ _ _ _ (by omega), nn _ _ _ _ (by omega), nn _ _ _ _ (by omega), nn _ _ _ _ (by omega)]; exact b0
          · rw [nn _ _ _ _ (by omega), nn _ _ _ _ (by omega), nn _ _ _ _ (by omega), nn _ _ _ _ (by omega), nn _ _ _ _ (by omega)]; exact b1
          · rw [nn _ _ _ _ (by omega), nn _ _ _ _ (by omega), nn _ _ _ _ (by omega), nn _ _ _ _ (by omega), nn _ _ _ _ (by omega)]; exact b2
          · rw [nn _ _ _ _ (by omega), nn _ _ _ _ (by omega), nn _ _ _ _ (by omega), nn _ _ _ _ (by omega), nn _ _ _ _ (by omega)]; exact b3
          · rw [nn _ _ _ _ (by omega), nn _ _ _ _ (by omega), nn _ _ _ _ (by omega), nn _ _ _ _ (by omega), nn _ _ _ _ (by omega)]; exact b4) (by
      rintro x ⟨M1, τ, rfl, hm, he, hkp⟩
      have hG1 : ls_G k τ := ls_G_e hG (fun f hf => he f (by omega))
      obtain ⟨M2, τ2, f2, h2, e2, d2, o2⟩ := ls_pdays hm hG1 hk hp hN hkp
      have es : ls_sm (ls_pA τ p N) (τ 3 0) = ls_sm (ls_pA σ p N) (σ 3 0) := by
        rw [he 3 (by omega)]
        exact ls_sm_cg (fun c _ => ls_pA_c he p N c)
      rw [es] at f2
      refine ⟨_, ift (nI_le (a := 480) (Nat.le_refl _) (by omega)) (mpx f2), M2, τ2, rfl, h2, fun f j hf hj => ?_⟩
      by_cases hm' : 13 ≤ f ∧ f ≤ 17
      · have ea : ls_at τ2 j = ls_at σ j := by
          by_cases e : j < 480 * p ∨ 480 * p + 480 ≤ j
          · rw [o2 j e]
            unfold ls_at
            rw [he 13 (by omega), he 14 (by omega), he 15 (by omega), he 16 (by omega), he 17 (by omega)]
          · have := d2 (j - 480 * p) (by omega)
            rwa [show 480 * p + (j - 480 * p) = j by omega] at this
        have : f = 13 ∨ f = 14 ∨ f = 15 ∨ f = 16 ∨ f = 17 := by omega
        rcases this with rfl | rfl | rfl | rfl | rfl
        · exact congrArg (fun x : ls_V => x.1) ea
        · exact congrArg (fun x : ls_V => x.2.1) ea
        · exact congrArg (fun x : ls_V => x.2.2.1) ea
        · exact congrArg (fun x : ls_V => x.2.2.2.1) ea
        · exact congrArg (fun x : ls_V => x.2.2.2.2) ea
      · rw [e2 f (by omega) (by omega), he f (by omega)])
  exact ⟨M1, τ1, bx (ls_fR h 47 (by decide)) hy, a, b⟩
theorem ca_plan (hM : ls_M n σ M M) (hc : lc n σ M M) (hG : ls_G k σ) (hk : k ≤ 512) (x y : Int32) : ls_cc n k M (fun M => f_X9_plan M (some n) x y) (fun M => f_X10_plan M (some (n + 31)) x y) := by
  rcases pe_pupil x with ⟨p, hp, rfl⟩ | hx
  · by_cases hy : 0 ≤ y ∧ y ≤ 59
    · obtain ⟨N, hN, rfl⟩ := pe_argle (n := 59) (by omega) hy.1 hy.2
      obtain ⟨M1, τc, f1, hs, hl⟩ := cl_planC hc hG hk hp hN
      have hM1 := ls_M_mv hM hl.2.2
      obtain ⟨M2, τm, f2, h2, e2⟩ := ls_planM hM1 hG hk hp hN
      obtain ⟨χ, hχ⟩ : ∃ χ : ls_S, χ = fun f j => if 11 ≤ f ∧ f ≤ 17 ∧ 1920 ≤ j then τc f j else τm f j := ⟨_, rfl⟩
      have s1 : ls_s τm χ := fun f j hf => by rw [hχ]; exact if_neg (by omega)
      have s2 : ls_e τc χ := fun f hf => by
        funext j
        rw [hχ]
        by_cases e : 11 ≤ f ∧ f ≤ 17 ∧ 1920 ≤ j
        · exact if_pos e
        · exact (if_neg e).trans ((e2 f j hf (by omega)).trans (hs f j (by omega)).symm)
      exact ⟨_, M1, M2, bx (pe_rc (lc_k0 hc)) (bx (lc_learnerAt hc hp) (iff_ (fun q => nomatch q) (iff_ (Int32.not_lt.mpr hy.1) (ift (nI_lt (b := 60) (by omega) (by omega)) f1)))), bx (ls_isPupil_in M1 hp) (iff_ ne10 (bx (ls_within_in M1 hy) (iff_ ne10 f2))), ls_fin (ls_M_s h2 s1) (lc_e0 hl s2) (ls_G_e (ls_G_w hG (ls_w_s hs)) s2)⟩
    · refine ⟨-1, M, M, bx (pe_rc (lc_k0 hc)) (bx (lc_learnerAt hc hp) (iff_ (fun q => nomatch q) ?_)), bx (ls_isPupil_in M hp) (iff_ ne10 (bx (ls_within_out M hy) (ift rfl rfl))), ls_no hM hc hG⟩
      by_cases h1 : y < 0
      · exact ift h1 rfl
      · refine iff_ h1 (iff_ (fun q => hy ⟨Int32.not_lt.mp h1, ?_⟩) rfl)
        obtain ⟨j, hj, rfl⟩ := pe_arg (n := 60) (by omega) (Int32.not_lt.mp h1) q
        exact nI_le (b := 59) (by omega) (by omega)
  · exact ⟨-1, M, M, bx (pe_rc (lc_k0 hc)) (bx (lc_learnerOut hc hx) (ift rfl rfl)), bx (ls_isPupil_out M hx) (ift rfl rfl), ls_no hM hc hG⟩
end
