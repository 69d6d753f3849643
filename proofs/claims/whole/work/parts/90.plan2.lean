section
variable {n k : Nat} {σ τ υ : ls_S} {B M M1 : mm_M}
theorem cl_isAskedOn (hs : ls_s σ τ) (h : lc n τ B M) (hG : ls_G k σ) (hk : k ≤ 512) {p c N : Nat} (hp : p < 4) (hc : c < σ 3 0) (hN : N ≤ 59) (hm : ∀ s, s < σ 0 c → ls_at τ (480 * 4 + 4 * c + s) = ls_at σ (480 * p + 4 * c + s) ∧ τ 12 (480 * 4 + 4 * c + s) = σ 12 (480 * p + 4 * c + s)) : ∃ M1 τ1, f_X9_isAskedOn M (some n) (some (lc_hd n M 4 c)) (nI (σ 8 p)) (nI N) = some (nI (ls_pA σ p N c), M1) ∧ ls_s σ τ1 ∧ lc n τ1 B M1 ∧ lc_sk M M1 := by
  have h1 := hG.1
  have h4 := (h1.2.1 c hc).2
  have h120 := h1.1
  have t5 := hG.2.1.2.2.2.2 p hp
  have n4 : (4 : Nat) < 5 := by omega
  have h7 := hG.2.2.2.2.2.2.1
  obtain ⟨y, hy, M1, τ1, rfl, a, b, c1⟩ := pe_cnt (body := fun x : mm_M × Int32 × Int32 => f_X9_isAskedOn_6 x.1 (some n) (some (lc_hd n M 4 c)) (nI (σ 8 p)) (nI N) x.2.1 x.2.2) (x := (M, 0, 0))
    (fun i x => ∃ M1 τ1 v, x = (M1, nI v, nI i) ∧ (∀ j, i = j + 1 → v = ls_pA σ p j c) ∧ v ≤ 1 ∧ ls_s σ τ1 ∧ lc n τ1 B M1 ∧ lc_sk M M1 ∧ (∀ s, s < σ 0 c → ls_at τ1 (480 * 4 + 4 * c + s) = ls_pE σ p c i s) ∧ ∀ s, s < σ 0 c → τ1 12 (480 * 4 + 4 * c + s) = if i = 0 then σ 12 (480 * p + 4 * c + s) else 0)
    (fun y => ∃ M1 τ1, y = (nI (ls_pA σ p N c), M1) ∧ ls_s σ τ1 ∧ lc n τ1 B M1 ∧ lc_sk M M1) (N + 1) ⟨M, τ, 0, rfl, fun j hj => by omega, by omega, hs, h, lc_sk_rf M, fun s hs => (hm s hs).1, fun s hs => by rw [if_pos rfl]; exact (hm s hs).2⟩ (by
      rintro i x hi ⟨M1, τ1, v, rfl, hv, hv1, hs1, hl, hsk, hat, h12⟩
      have e3 : τ1 3 0 = σ 3 0 := by rw [ls_s_f hs1 (f := 3) (by omega)]
      have e0 : τ1 0 = σ 0 := ls_s_f hs1 (by omega)
      have hc' : c < τ1 3 0 := by rw [e3]; exact hc
      have O1 := ls_s_O1 hs1 h1
      have hok := ls_pE_ok hG hk hp hc i
      have hb1 : ∀ s, s < σ 0 c → τ1 12 (480 * 4 + 4 * c + s) ≤ 1 := fun s hs => by
        rw [h12 s hs]
        split
        · exact h7.1 _ (by omega)
        · omega
      have mu := lc_mostUrgent hl O1 (p := 4) (c := c) (on := σ 8 p + i) n4 hc' (by omega) ⟨fun s hs => by rw [e0] at hs; rw [hat s hs]; exact (hok s hs).1, fun s hs => by rw [e0] at hs; exact hb1 s hs⟩
      have ed : ls_ds τ1 (480 * 4 + 4 * c) (σ 8 p + i) 1 (τ1 0 c) = ls_pD σ p c i := by
        rw [e0]
        refine ls_ds_df (fun s hs => ⟨hat s hs, ?_⟩)
        rw [h12 s hs]
        by_cases e : i = 0
        · rw [if_pos e, if_pos e]
        · rw [if_neg e, if_neg e]
          exact ⟨fun _ => Or.inl rfl, fun _ => Or.inr rfl⟩
      rw [ed] at mu
      -- behind the move
      have fin : ∀ (M2 : mm_M) (τ2 : ls_S) (v2 : Nat), ls_s σ τ2 → lc n τ2 B M2 → lc_sk M1 M2 → (∀ s, s < σ 0 c → ls_at τ2 (480 * 4 + 4 * c + s) = ls_pE σ p c (i + 1) s) → (∀ s, s < σ 0 c → τ2 12 (480 * 4 + 4 * c + s) = τ1 12 (480 * 4 + 4 * c + s)) → ∃ M3 τ3, f_X9_isAskedOn_71 M2 (some n) (some (lc_hd n M1 4 c)) (nI (σ 8 p)) (nI N) (nI v2) (nI i) = some (.inl (M3, nI v2, nI (i + 1))) ∧ ls_s σ τ3 ∧ lc n τ3 B M3 ∧ lc_sk M1 M3 ∧ (∀ s, s < σ 0 c → ls_at τ3 (480 * 4 + 4 * c + s) = ls_pE σ p c (i + 1) s) ∧ ∀ s, s < σ 0 c → τ3 12 (480 * 4 + 4 * c + s) = 0 := by
        intro M2 τ2 v2 hs2 hl2 hk2 ha2 hb2
        have hn : ∀ M3, f_X9_isAskedOn_80 M3 (some n) (some (lc_hd n M1 4 c)) (nI (σ 8 p)) (nI N) (nI v2) (nI i) = some (.inl (M3, nI v2, nI (i + 1))) := fun M3 => by
          show some (Sum.inl (M3, nI v2, nI i + 1)) = _
          rw [nI_1]
        have e32 : τ2 3 0 = σ 3 0 := by rw [ls_s_f hs2 (f := 3) (by omega)]
        by_cases e : i = 0
        · obtain ⟨M3, f3, l3, k3⟩ := cl_handFT hl2 (ls_s_O1 hs2 h1) (p := 4) (c := c) n4 (by rw [e32]; exact hc)
          rw [lc_sk_hd hk2] at f3
          refine ⟨M3, _, ift (by rw [e]; rfl) (bx (by rw [← lc_sk_hd hk2]; exact lc_hrcd hl2 n4 (by rw [e32]; exact hc)) (bx f3 (hn M3))), ?_, l3, lc_sk_tr hk2 k3, fun s hs => ?_, fun s hs => ?_⟩
          · exact ls_s_tr hs2 (fun f j hf => if_neg (by omega))
          · have : ls_at (ls_zt τ2 (480 * 4 + 4 * c) (480 * 4 + 4 * c + 4)) (480 * 4 + 4 * c + s) = ls_at τ2 (480 * 4 + 4 * c + s) := by
              unfold ls_at
              rw [ls_zt_f _ _ _ (by omega), ls_zt_f _ _ _ (by omega), ls_zt_f _ _ _ (by omega), ls_zt_f _ _ _ (by omega), ls_zt_f _ _ _ (by omega)]
            rw [this]; exact ha2 s hs
          · exact if_pos (by omega)
        · exact ⟨M2, τ2, iff_ (nI_ne0 (by omega) (by omega)) (hn M2), hs2, hl2, hk2, ha2, fun s hs => by rw [hb2 s hs, h12 s hs, if_neg e]⟩
      have eti : nI (σ 8 p) + nI i = nI (σ 8 p + i) := nI_add _ _
      have pre : ∀ {w r}, f_X5_memoryAt M1 (some (lc_hd n M1 4 c)) (ls_d1 (ls_pD σ p c i)) = some w → (if w = none then f_X9_isAskedOn_39 M1 (some n) (some (lc_hd n M1 4 c)) (nI (σ 8 p)) (nI N) (nI i) w else f_X9_isAskedOn_35 M1 (some n) (some (lc_hd n M1 4 c)) (nI (σ 8 p)) (nI N) (nI i) w) = r → f_X9_isAskedOn_6 M1 (some n) (some (lc_hd n M1 4 c)) (nI (σ 8 p)) (nI N) (nI v) (nI i) = r := fun {w r} hw q => iff_ (nI_nlt (a := N) (b := i) (by omega) (by omega)) (bx (lc_r0 hl 0 1 (by decide)) (bx (lc_hrcd hl n4 hc') (bx (a := ls_d1 (ls_pD σ p c i)) (by rw [eti]; exact mu) (bx (lc_hrcd hl n4 hc') (bx hw q)))))
      rw [← lc_sk_hd hsk]
      cases hD : ls_pD σ p c i with
      | none =>
        rw [hD] at pre
        have hA : ls_pA σ p i c = 0 := by unfold ls_pA; rw [hD]
        obtain ⟨M3, τ3, f3, s3, l3, k3, a3, b3⟩ := fin M1 τ1 0 hs1 hl (lc_sk_rf M1) (fun s hs => by rw [show ls_pE σ p c (i + 1) = ls_pE σ p c i from ls_pe_n hD]; exact hat s hs) (fun _ _ => rfl)
        exact ⟨(M3, nI 0, nI (i + 1)), pre (lc_memOut5 hl n4 hc' (x := -1) (fun q => absurd q.1 (by decide))) (ift rfl f3), M3, τ3, 0, rfl, fun j hj => by rw [show j = i by omega, hA], by omega, s3, l3, lc_sk_tr hsk k3, a3, fun s hs => by rw [b3 s hs, if_neg (by omega)]⟩
      | some x =>
        rw [hD] at pre
        have hx := ls_df_b _ _ _ _ _ _ hD
        have hx' : x.1 < τ1 0 c := by rw [e0]; exact hx
        have hA : ls_pA σ p i c = 1 := by unfold ls_pA; rw [hD]
        have aq := lc_at_of hl n4 hc' hx'
        rw [hat _ hx] at aq
        obtain ⟨M2, f2, d2, A2⟩ := lc_move aq (lc_cv_of hl) (r := σ 4 0) (b := σ 5 2) (ac := 2) (on := σ 8 p + i) hG.2.1.1 (hG.2.1.2.1 2 (by omega)) (by omega) (hok _ hx).1 (by omega)
        have h2 := lc_pt_of hl O1 n4 hc' hx' d2 A2
        have hs2 := ls_s_pt hs1 (Q := 480 * 4 + 4 * c + x.1) (by omega) (ls_aB (σ 4 0) (σ 5 2) 2 (σ 8 p + i) (ls_pE σ p c i x.1))
        obtain ⟨M3, τ3, f3, s3, l3, k3, a3, b3⟩ := fin M2 _ 1 hs2 h2 (lc_sk_df d2) (fun s hs => by
          rw [ls_at_pt, show ls_pE σ p c (i + 1) s = _ from ls_pe_s hD s]
          by_cases e : s = x.1
          · rw [if_pos e, if_pos (by omega), e]
          · rw [if_neg e, if_neg (by omega)]; exact hat s hs) (fun s hs => by rw [ls_pt_f _ _ _ (by omega)])
        have i8 : mm_I M1 n 8 = nI (σ 4 0) := by rw [hl.2.1.1.1, ls_s_f hs1 (by omega)]
        have i19 : mm_I M1 (n + 18) 2 = nI (σ 5 2) := by rw [hl.2.1.2.1 2 (by omega), ls_s_f hs1 (by omega)]
        refine ⟨(M3, nI 1, nI (i + 1)), pre (lc_memAt5 hl n4 hc' hx' (by rw [e0]; exact h4)) (iff_ (fun q => nomatch q) (bx (pfI (lc_k0 hl) i8) (bx (lc_r0 hl 7 18 (by decide)) (bx (paI (i := 2) (lc_k hl (18, 12, 4) (by decide)) (by omega) (by omega) i19) (bx (lc_r0 hl 0 1 (by decide)) (bx (pe_rc aq.1) (bx (a := M2) (by rw [eti]; exact f2) f3))))))), M3, τ3, 1, rfl, fun j hj => by rw [show j = i by omega, hA], by omega, s3, l3, lc_sk_tr hsk k3, a3, fun s hs => by rw [b3 s hs, if_neg (by omega)]⟩) (by
      rintro x ⟨M1, τ1, v, rfl, hv, hv1, hs1, hl, hsk, hat, h12⟩
      have ev := hv N rfl
      subst ev
      have h01 : nI (ls_pA σ p N c) = 0 ∨ nI (ls_pA σ p N c) = 1 := by
        have := ls_pA_b σ p N c
        have : ls_pA σ p N c = 0 ∨ ls_pA σ p N c = 1 := by omega
        rcases this with e | e
        · exact Or.inl (by rw [e]; rfl)
        · exact Or.inr (by rw [e]; rfl)
      exact ⟨_, ift (nI_lt (a := N) (b := N + 1) (by omega) (by omega)) (mpx (gz h01 rfl)), M1, τ1, rfl, hs1, hl, hsk⟩)
  exact ⟨M1, τ1, hy, a, b, c1⟩
theorem cl_planC (h : lc n σ B M) (hG : ls_G k σ) (hk : k ≤ 512) {p N : Nat} (hp : p < 4) (hN : N ≤ 59) : ∃ M1 τ1, f_X9_plan_22 M (some n) (nI N) (some (n + lc_lo p)) = some (nI (ls_sm (ls_pA σ p N) (σ 3 0)), M1) ∧ ls_s σ τ1 ∧ lc n τ1 B M1 := by
  have h1 := hG.1
  have h120 := h1.1
  have np : p < 5 := by omega
  have n4 : (4 : Nat) < 5 := by omega
  obtain ⟨y, hy, M1, τ1, rfl, a, b⟩ := pe_cnt (body := fun x : mm_M × Int32 × Int32 => f_X9_plan_28 x.1 (some n) (nI N) (some (n + lc_lo p)) x.2.1 x.2.2) (x := (M, 0, 0))
    (fun i x => ∃ M1 τ1, x = (M1, nI (ls_sm (ls_pA σ p N) i), nI i) ∧ ls_s σ τ1 ∧ lc n τ1 B M1)
    (fun y => ∃ M1 τ1, y = (nI (ls_sm (ls_pA σ p N) (σ 3 0)), M1) ∧ ls_s σ τ1 ∧ lc n τ1 B M1) (σ 3 0) ⟨M, σ, rfl, ls_s_rf σ, h⟩ (by
      rintro i x hi ⟨M1, τ1, rfl, hs1, hl⟩
      have e3 : τ1 3 0 = σ 3 0 := by rw [ls_s_f hs1 (f := 3) (by omega)]
      have hc' : i < τ1 3 0 := by rw [e3]; exact hi
      have h3' : τ1 3 0 ≤ 120 := by rw [e3]; exact h120
      obtain ⟨M2, τ2, f2, s2, l2, k2, m2⟩ := cl_handBecome hs1 hl h1 hG.2.2.2.2.2.2.1 hp hi
      obtain ⟨M3, τ3, f3, s3, l3, k3⟩ := cl_isAskedOn s2 l2 hG hk hp hi hN m2
      rw [lc_sk_hd k2] at f3
      have i3 : mm_I M2 (n + lc_lo p) 3 = nI (σ 8 p) := by rw [(l2.2.1.2.2.2.2.1 p hp).1, ls_s_f s2 (by omega)]
      have hn : f_X9_plan_100 M3 (some n) (nI N) (some (n + lc_lo p)) (nI (ls_sm (ls_pA σ p N) i) + nI (ls_pA σ p N i)) (nI i) = some (.inl (M3, nI (ls_sm (ls_pA σ p N) (i + 1)), nI (i + 1))) := by
        show some (Sum.inl (M3, nI (ls_sm (ls_pA σ p N) i) + nI (ls_pA σ p N i), nI i + 1)) = _
        rw [nI_1, nI_add]
        rfl
      refine ⟨(M3, nI (ls_sm (ls_pA σ p N) (i + 1)), nI (i + 1)), bx (lc_r0 hl 1 3 (by decide)) (bx (pe_rc (lc_kdk hl)) (bx (a := nI (τ1 3 0)) (bx (lc_rdk hl 0 4 (by decide)) (bx (pe_rc (lc_kdl hl)) (bx (lc_dsz hl) rfl))) (iff_ (by rw [e3]; exact nI_ge hi (by omega)) (bx (pe_rc (lc_kla hl np)) (bx (lc_handAt hl h3' np hc') (bx (lc_r0 hl 3 8 (by decide)) (bx (pe_rc (lc_kla hl (p := 4) n4)) (bx (lc_handAt hl h3' (p := 4) n4 hc') (iff_ (fun q => nomatch q) (iff_ (fun q => nomatch q) (bx (lc_hrcd hl n4 hc') (bx f2 (bx (pfI (lc_kla l2 np) i3) (bx (pe_rc (lc_k0 l2)) (b2x f3 ?_))))))))))))))), M3, τ3, rfl, s3, l3⟩
      have := ls_pA_b σ p N i
      have h01 : ls_pA σ p N i = 0 ∨ ls_pA σ p N i = 1 := by omega
      rcases h01 with e | e
      · rw [e] at hn ⊢
        exact ift rfl hn
      · rw [e] at hn ⊢
        exact iff_ ne10 hn) (by
      rintro x ⟨M1, τ1, rfl, hs1, hl⟩
      have e3 : τ1 3 0 = σ 3 0 := by rw [ls_s_f hs1 (f := 3) (by omega)]
      exact ⟨_, bx (lc_r0 hl 1 3 (by decide)) (bx (pe_rc (lc_kdk hl)) (bx (a := nI (τ1 3 0)) (bx (lc_rdk hl 0 4 (by decide)) (bx (pe_rc (lc_kdl hl)) (bx (lc_dsz hl) rfl))) (ift (by rw [e3]; exact nI_le (Nat.le_refl _) (by omega)) (mpx rfl)))), M1, τ1, rfl, hs1, hl⟩)
  exact ⟨M1, τ1, hy, a, b⟩
end
