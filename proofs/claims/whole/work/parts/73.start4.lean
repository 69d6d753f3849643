section
variable {n k : Nat} {σ τ υ : ls_S} {B M M1 : mm_M}
theorem ca_start (hM : ls_M n σ M M) (hc : lc n σ M M) (hG : ls_G k σ) (x : Int32) : ls_cc n k M (fun M => f_X9_start M (some n) x) (fun M => f_X10_start M (some (n + 31)) x) := by
  have O1 := hG.1
  have h120 := O1.1
  rcases pe_pupil x with ⟨p, hp, rfl⟩ | hx
  · have np : p < 5 := by omega
    have kl := lc_kla hc np
    have O4 := hG.2.2.2.1
    have h8 := hG.2.1.2.2.2.2 p hp
    have h6 := hG.2.1.2.2.1
    have h7 := hG.2.1.2.2.2.1
    have hl := (O4 p hp).1
    have i5 := hc.2.1.2.2.2.2.1 p hp
    have i1 := hc.2.1.1
    by_cases h0 : σ 10 p = 0
    · obtain ⟨MA, eA, dA, wA⟩ := cl_askDue hc hp hG
      obtain ⟨D1, D2, D3⟩ := ls_dq_ok O1 p (σ 3 0) (Nat.le_refl _)
      have hn0 := ls_n0_le σ p
      have hq0 : (∀ i, i < ls_n0 σ p → ls_pl σ ((ls_dq σ p (σ 3 0)).2 i)) ∧ ∀ i, i < ls_n0 σ p → ∀ j, j < i → (ls_dq σ p (σ 3 0)).2 i / 4 ≠ (ls_dq σ p (σ 3 0)).2 j / 4 := ⟨fun i hi => (D2 i (by omega)).2, fun i hi => D3 i (by omega)⟩
      obtain ⟨MB, eB, dB, wB⟩ := cl_askFresh hc hp hG dA wA hq0
      have hlA := lc_sr hc hp O4 h120 dA wA
      have hmf : lc_mf n M MB := fun a h1 h2 => by
        have hn : ¬ lc_rc n p a := by have := lc_lo29 np; unfold lc_rc; omega
        exact ⟨lc_di_k dB.1 a, (dB.1.2.2.2 a hn).1, lc_di_R dB.1 a, (dB.1.2.2.2 a hn).2⟩
      have hMB := ls_M_mv hM hmf
      -- the model, first part
      obtain ⟨z, hz, MF, τF, rfl, hF, reF, t10, t9⟩ := pe_cnt (body := fun y : mm_M × Int32 × Int32 => f_X10_start_32 y.1 (some (n + 31)) (nI p) y.2.1 (nI (480 * p)) y.2.2) (x := (MB, 0, 0)) (fun c y => ∃ M1 τ1, y = (M1, nI (ls_dq σ p c).1, nI c) ∧ ls_M n τ1 MB M1 ∧ ls_re σ τ1 p ∧ ∀ j, j < (ls_dq σ p c).1 → τ1 9 (480 * p + j) = (ls_dq σ p c).2 j ∧ τ1 46 j = ls_pc σ p ((ls_dq σ p c).2 j)) (fun z => ∃ M1 τ1, z = (nI (ls_fq σ p (ls_n0 σ p) (ls_dq σ p (σ 3 0)).2 (σ 3 0)).1, M1) ∧ ls_M n τ1 MB M1 ∧ ls_re σ τ1 p ∧ τ1 10 p = (ls_fq σ p (ls_n0 σ p) (ls_dq σ p (σ 3 0)).2 (σ 3 0)).1 ∧ ∀ j, j < (ls_fq σ p (ls_n0 σ p) (ls_dq σ p (σ 3 0)).2 (σ 3 0)).1 → τ1 9 (480 * p + j) = (ls_fq σ p (ls_n0 σ p) (ls_dq σ p (σ 3 0)).2 (σ 3 0)).2 j) (σ 3 0) ⟨MB, σ, rfl, hMB, ls_re_rf σ p, fun j hj => absurd hj (Nat.not_lt_zero j)⟩ (by
          rintro c y hc2 ⟨M1, τ1, rfl, hm1, re1, hr1⟩
          have e3 : τ1 3 0 = σ 3 0 := by rw [re1.1 3 (by omega) (by omega) (by omega)]
          have e8 : τ1 8 p = σ 8 p := by rw [re1.1 8 (by omega) (by omega) (by omega)]
          have e0 : τ1 0 c = σ 0 c := by rw [re1.1 0 (by omega) (by omega) (by omega)]
          have h4 := (O1.2.1 c hc2).2
          obtain ⟨okc1, okc2⟩ := ls_G_okc hG hp hc2
          obtain ⟨M2, τ2, f2, h2, v2, t45⟩ := ls_dueSide hm1 (ls_re_O1 re1 O1) (p := p) (c := c) (on := σ 8 p) (md := 1) hp (by rw [e3]; exact hc2) (by omega) (by omega) (fun s hs => by rw [e0] at hs; rw [ls_re_at re1]; exact okc1 s hs) (fun s hs => by rw [e0] at hs; rw [re1.1 12 (by omega) (by omega) (by omega)]; exact okc2 s hs)
          rw [ls_ds_c (fun q => ls_re_at re1 q) (re1.1 12 (by omega) (by omega) (by omega)), e0] at f2 t45
          have re2 := ls_re_v re1 v2
          have hr2 : ∀ j, j < (ls_dq σ p c).1 → τ2 9 (480 * p + j) = (ls_dq σ p c).2 j ∧ τ2 46 j = ls_pc σ p ((ls_dq σ p c).2 j) := fun j hj => by
            rw [v2 9 (ls_nx_of (by omega) (by omega)), v2 46 (ls_nx_of (by omega) (by omega))]
            exact hr1 j hj
          have X : ∀ {z}, (if ls_d1 (ls_ds σ (480 * p + 4 * c) (σ 8 p) 1 (σ 0 c)) < 0 then f_X10_start_158 M2 (some (n + 31)) (nI p) (nI (ls_dq σ p c).1) (nI (480 * p)) (nI c) else f_X10_start_62 M2 (some (n + 31)) (nI p) (nI (ls_dq σ p c).1) (nI (480 * p)) (nI c) (ls_d1 (ls_ds σ (480 * p + 4 * c) (σ 8 p) 1 (σ 0 c)))) = z → f_X10_start_32 M1 (some (n + 31)) (nI p) (nI (ls_dq σ p c).1) (nI (480 * p)) (nI c) = z := fun q => bx (ls_fI hm1 3 (by decide)) (iff_ (show ¬ nI (τ1 3 0) ≤ nI c by rw [e3]; exact nI_ge hc2 (by omega)) (bx (ls_fR hm1 8 (by decide)) (bx (a := nI (σ 8 p)) (by rw [← e8]; exact ls_aI hm1 8 p (by decide) hp) (bx (ls_rc hm1) (b2x f2 q)))))
          have hD : ls_dq σ p (c + 1) = match ls_ds σ (480 * p + 4 * c) (σ 8 p) 1 (σ 0 c) with
            | none => ls_dq σ p c
            | some y => ((ls_dq σ p c).1 + 1, ls_in (ls_dq σ p c).2 (4 * c + y.1) (ls_ip (fun i => ls_pc σ p ((ls_dq σ p c).2 i)) y.2 (ls_dq σ p c).1)) := rfl
          rw [hD]
          cases hy : ls_ds σ (480 * p + 4 * c) (σ 8 p) 1 (σ 0 c) with
          | none =>
            rw [hy] at X
            refine ⟨(M2, nI (ls_dq σ p c).1, nI (c + 1)), X (ift (show (-1 : Int32) < 0 by decide) ?_), M2, τ2, rfl, h2, re2, hr2⟩
            show some (Sum.inl (M2, nI (ls_dq σ p c).1, nI c + 1)) = _
            rw [nI_1]
          | some y =>
            rw [hy] at X t45
            have hb := ls_ds_b _ _ _ _ _ _ hy
            have he := ls_ds_e _ _ _ _ _ _ hy
            obtain ⟨d1, d2, d3⟩ := ls_dq_ok O1 p c (by omega)
            have epc : ls_pc σ p (4 * c + y.1) = y.2 := by
              show ls_c0h (ls_at σ (480 * p + (4 * c + y.1))) (σ 8 p) = y.2
              rw [show 480 * p + (4 * c + y.1) = 480 * p + 4 * c + y.1 by omega, he.1]
              exact if_neg (by have := he.2.1; omega)
            obtain ⟨M3, τ3, f3, h3, re3, hr3⟩ := ls_put_in h2 hp re2 (m := (ls_dq σ p c).1) (c := c) (s := y.1) (by omega) (by omega) (by omega) hr2 (by rw [epc]; exact t45)
            rw [epc] at hr3
            exact ⟨_, X (iff_ (nI_pos (n := y.1) (by omega)) f3), M3, τ3, rfl, h3, re3, hr3⟩) (by
          rintro y ⟨M1, τ1, rfl, hm1, re1, hr1⟩
          have e3 : τ1 3 0 = σ 3 0 := by rw [re1.1 3 (by omega) (by omega) (by omega)]
          have e6 : τ1 6 0 = σ 6 0 := by rw [re1.1 6 (by omega) (by omega) (by omega)]
          have X : ∀ {z}, f_X10_start_180 M1 (some (n + 31)) (nI p) (nI (480 * p)) (nI (ls_n0 σ p)) = some z → f_X10_start_32 M1 (some (n + 31)) (nI p) (nI (ls_dq σ p (σ 3 0)).1) (nI (480 * p)) (nI (σ 3 0)) = some (.inr z) := fun q => bx (ls_fI hm1 3 (by decide)) (ift (show nI (τ1 3 0) ≤ nI (σ 3 0) by rw [e3]; exact nI_le (Nat.le_refl _) (by omega)) (mpx (bx (a := nI (σ 6 0)) (by rw [← e6]; exact ls_fI hm1 6 (by decide)) (by
            unfold ls_n0 at q
            by_cases e : σ 6 0 < (ls_dq σ p (σ 3 0)).1
            · rw [if_pos e] at q
              exact ift (nI_le (by omega) (by omega)) (bx (a := nI (σ 6 0)) (by rw [← e6]; exact ls_fI hm1 6 (by decide)) q)
            · rw [if_neg e] at q
              by_cases e2 : σ 6 0 = (ls_dq σ p (σ 3 0)).1
              · rw [← e2] at q ⊢
                exact ift (nI_le (Nat.le_refl _) (by omega)) (bx (a := nI (σ 6 0)) (by rw [← e6]; exact ls_fI hm1 6 (by decide)) q)
              · exact iff_ (nI_ge (by omega) (by omega)) q))))
          have hr0 : ∀ j, j < ls_n0 σ p → τ1 9 (480 * p + j) = (ls_dq σ p (σ 3 0)).2 j := fun j hj => (hr1 j (by omega)).1
          generalize ls_n0 σ p = n0 at *
          generalize (ls_dq σ p (σ 3 0)).2 = r0 at *
          -- the second part
          obtain ⟨z, hz, hQ⟩ := pe_loop (body := fun y : mm_M × Int32 × Int32 × Int32 => f_X10_start_190 y.1 (some (n + 31)) (nI p) y.2.1 (nI (480 * p)) y.2.2.1 (nI n0) y.2.2.2) (x := (M1, nI n0, 0, 0)) (fun c y => ∃ M2 τ2, y = (M2, nI (ls_fq σ p n0 r0 c).1, nI ((ls_fq σ p n0 r0 c).1 - n0), nI c) ∧ ls_M n τ2 MB M2 ∧ ls_re σ τ2 p ∧ ∀ j, j < (ls_fq σ p n0 r0 c).1 → τ2 9 (480 * p + j) = (ls_fq σ p n0 r0 c).2 j) (fun z => ∃ M1 τ1, z = (nI (ls_fq σ p n0 r0 (σ 3 0)).1, M1) ∧ ls_M n τ1 MB M1 ∧ ls_re σ τ1 p ∧ τ1 10 p = (ls_fq σ p n0 r0 (σ 3 0)).1 ∧ ∀ j, j < (ls_fq σ p n0 r0 (σ 3 0)).1 → τ1 9 (480 * p + j) = (ls_fq σ p n0 r0 (σ 3 0)).2 j) (σ 3 0) ⟨M1, τ1, by show _ = (M1, nI n0, nI (n0 - n0), _); rw [Nat.sub_self]; rfl, hm1, re1, hr0⟩ (by
              rintro c y hi ⟨M2, τ2, rfl, h2, re2, hr2⟩
              have e3 : τ2 3 0 = σ 3 0 := by rw [re2.1 3 (by omega) (by omega) (by omega)]
              have e7 : τ2 7 0 = σ 7 0 := by rw [re2.1 7 (by omega) (by omega) (by omega)]
              obtain ⟨a1, a2, a3, a4⟩ := ls_fq_ok O1 p hq0 c hi
              have a41 := a4.1
              have fin : ls_fq σ p n0 r0 (σ 3 0) = ls_fq σ p n0 r0 c → ∃ z, f_X10_start_371 M2 (some (n + 31)) (nI p) (nI (ls_fq σ p n0 r0 c).1) = some z ∧ ∃ M1 τ1, z = (nI (ls_fq σ p n0 r0 (σ 3 0)).1, M1) ∧ ls_M n τ1 MB M1 ∧ ls_re σ τ1 p ∧ τ1 10 p = (ls_fq σ p n0 r0 (σ 3 0)).1 ∧ ∀ j, j < (ls_fq σ p n0 r0 (σ 3 0)).1 → τ1 9 (480 * p + j) = (ls_fq σ p n0 r0 (σ 3 0)).2 j := fun hs => by
                obtain ⟨M3, e3, h3⟩ := ls_tI h2 10 p (ls_fq σ p n0 r0 c).1 (by decide) rfl hp
                rw [hs]
                exact ⟨_, bx (ls_fR h2 10 (by decide)) (bx e3 rfl), M3, _, rfl, h3, ls_re_10 re2 _, by rw [mm_u, if_pos ⟨rfl, rfl⟩], hr2⟩
              by_cases e : c = σ 3 0
              · right
                obtain ⟨z, hz, hq⟩ := fin (by rw [e])
                exact ⟨z, bx (ls_fI h2 3 (by decide)) (ift (show nI (τ2 3 0) ≤ nI c by rw [e3, e]; exact nI_le (Nat.le_refl _) (by omega)) (mpx hz)), hq⟩
              · have hc2 : c < σ 3 0 := by omega
                by_cases hleft : σ 7 0 ≤ (ls_fq σ p n0 r0 c).1 - n0
                · right
                  have hs := ls_fq_stop p hleft (σ 3 0 - c)
                  rw [show c + (σ 3 0 - c) = σ 3 0 by omega] at hs
                  obtain ⟨z, hz, hq⟩ := fin hs
                  exact ⟨z, bx (ls_fI h2 3 (by decide)) (iff_ (show ¬ nI (τ2 3 0) ≤ nI c by rw [e3]; exact nI_ge hc2 (by omega)) (bx (ls_fI h2 7 (by decide)) (ift (show nI (τ2 7 0) ≤ nI ((ls_fq σ p n0 r0 c).1 - n0) by rw [e7]; exact nI_le hleft (by omega)) (mpx hz)))), hq⟩
                · left
                  have h4 := (O1.2.1 c hc2).2
                  have e0 : τ2 0 c = σ 0 c := by rw [re2.1 0 (by omega) (by omega) (by omega)]
                  have e2c : τ2 2 c = σ 2 c := by rw [re2.1 2 (by omega) (by omega) (by omega)]
                  have e8 : τ2 8 p = σ 8 p := by rw [re2.1 8 (by omega) (by omega) (by omega)]
                  have hfb := ls_ff_b σ (480 * p + 4 * c) (σ 0 c) 0
                  -- the sides
                  have L2 : ∀ {u : Int32} {z}, f_X10_start_310 M2 (some (n + 31)) (nI p) (nI (ls_fq σ p n0 r0 c).1) (nI (480 * p)) (nI ((ls_fq σ p n0 r0 c).1 - n0)) (nI n0) (nI c) u (nI (ls_ff σ (480 * p + 4 * c) (σ 0 c) 0)) = some z → f_X10_start_255 M2 (some (n + 31)) (nI p) (nI (ls_fq σ p n0 r0 c).1) (nI (480 * p)) (nI ((ls_fq σ p n0 r0 c).1 - n0)) (nI n0) (nI c) u = some z := fun {u z} q => by
                    obtain ⟨w, hw, rfl⟩ := pe_loop (body := fun y : Int32 => f_X10_start_258 M2 (some (n + 31)) (nI p) (nI (ls_fq σ p n0 r0 c).1) (nI (480 * p)) (nI ((ls_fq σ p n0 r0 c).1 - n0)) (nI n0) (nI c) u y) (x := 0) (fun i y => y = nI i ∧ ls_ff σ (480 * p + 4 * c) (σ 0 c) 0 = ls_ff σ (480 * p + 4 * c) (σ 0 c - i) i) (fun w => w = z) (σ 0 c) ⟨rfl, rfl⟩ (by
                      rintro i y hi ⟨rfl, ha⟩
                      by_cases hic : i = σ 0 c
                      · right
                        have e5 : ls_ff σ (480 * p + 4 * c) (σ 0 c) 0 = i := by rw [ha, hic, Nat.sub_self]; rfl
                        rw [e5] at q
                        exact ⟨z, bx (ls_fR h2 0 (by decide)) (bx (ls_aI h2 0 c (by decide) (show c < 120 by omega)) (ift (show nI (τ2 0 c) ≤ nI i by rw [e0, hic]; exact nI_le (Nat.le_refl _) (by omega)) (mpx q))), rfl⟩
                      · have hi2 : i < σ 0 c := by omega
                        obtain ⟨ok1, ok2, ok3⟩ := ls_G_ok hG hp hc2 hi2
                        have hst : (ls_at σ (480 * p + 4 * c + i)).1 = σ 13 (480 * p + 4 * c + i) := rfl
                        have hsb := ok1.2.1
                        rw [hst] at hsb
                        have A13 : mm_aI M2 (some (ls_ad n 13)) 12 (nI (480 * p) + 4 * nI c + nI i) = some (nI (σ 13 (480 * p + 4 * c + i))) := by
                          rw [ls_ix5, ← re2.1 13 (by omega) (by omega) (by omega)]
                          exact ls_aI h2 13 _ (by decide) (show _ < 1920 from ok3)
                        have A12 : mm_aI M2 (some (ls_ad n 12)) 14 (nI (480 * p) + 4 * nI c + nI i) = some (nI (σ 12 (480 * p + 4 * c + i))) := by
                          rw [ls_ix5, ← re2.1 12 (by omega) (by omega) (by omega)]
                          exact ls_aI h2 12 _ (by decide) (show _ < 1920 from ok3)
                        obtain ⟨kk, hkk⟩ : ∃ kk, σ 0 c - i = kk + 1 := ⟨σ 0 c - i - 1, by omega⟩
                        have hu : ls_ff σ (480 * p + 4 * c) (kk + 1) i = if σ 13 (480 * p + 4 * c + i) = 0 ∧ σ 12 (480 * p + 4 * c + i) = 0 then i else ls_ff σ (480 * p + 4 * c) kk (i + 1) := rfl
                        rw [hkk, hu] at ha
                        have hgo : ∀ {r}, f_X10_start_270 M2 (some (n + 31)) (nI p) (nI (ls_fq σ p n0 r0 c).1) (nI (480 * p)) (nI ((ls_fq σ p n0 r0 c).1 - n0)) (nI n0) (nI c) u (nI i) = r → f_X10_start_258 M2 (some (n + 31)) (nI p) (nI (ls_fq σ p n0 r0 c).1) (nI (480 * p)) (nI ((ls_fq σ p n0 r0 c).1 - n0)) (nI n0) (nI c) u (nI i) = r := fun q => bx (ls_fR h2 0 (by decide)) (bx (ls_aI h2 0 c (by decide) (show c < 120 by omega)) (iff_ (show ¬ nI (τ2 0 c) ≤ nI i by rw [e0]; exact nI_ge hi2 (by omega)) q))
                        have hnext : f_X10_start_304 M2 (some (n + 31)) (nI p) (nI (ls_fq σ p n0 r0 c).1) (nI (480 * p)) (nI ((ls_fq σ p n0 r0 c).1 - n0)) (nI n0) (nI c) u (nI i) = some (.inl (nI (i + 1))) := by
                          show some (Sum.inl (nI i + 1)) = _
                          rw [nI_1]
                        have hin : ¬ (σ 13 (480 * p + 4 * c + i) = 0 ∧ σ 12 (480 * p + 4 * c + i) = 0) → nI (i + 1) = nI (i + 1) ∧ ls_ff σ (480 * p + 4 * c) (σ 0 c) 0 = ls_ff σ (480 * p + 4 * c) (σ 0 c - (i + 1)) (i + 1) := fun q => by
                          rw [if_neg q] at ha
                          exact ⟨rfl, by rw [ha, show σ 0 c - (i + 1) = kk by omega]⟩
                        by_cases hs0 : σ 13 (480 * p + 4 * c + i) = 0
                        · by_cases hb0 : σ 12 (480 * p + 4 * c + i) = 0
                          · right
                            rw [if_pos ⟨hs0, hb0⟩] at ha
                            rw [ha] at q
                            exact ⟨z, hgo (bx (ls_fR h2 13 (by decide)) (bx A13 (iff_ (by rw [hs0]; decide) (bx (ls_fR h2 12 (by decide)) (bx A12 (ift (by rw [hb0]; decide) (mpx q))))))), rfl⟩
                          · exact Or.inl ⟨_, hgo (bx (ls_fR h2 13 (by decide)) (bx A13 (iff_ (by rw [hs0]; decide) (bx (ls_fR h2 12 (by decide)) (bx A12 (iff_ (nI_ne0 (by omega) (by omega)) hnext)))))), hin (fun q => hb0 q.2), hi2⟩
                        · exact Or.inl ⟨_, hgo (bx (ls_fR h2 13 (by decide)) (bx A13 (ift (show nI 0 < nI (σ 13 (480 * p + 4 * c + i)) from nI_lt (by omega) (by omega)) hnext))), hin (fun q => hs0 q.1), hi2⟩)
                    exact hw
                  -- the row
                  have L1 : ∀ {z}, f_X10_start_255 M2 (some (n + 31)) (nI p) (nI (ls_fq σ p n0 r0 c).1) (nI (480 * p)) (nI ((ls_fq σ p n0 r0 c).1 - n0)) (nI n0) (nI c) (if ∃ j, j < n0 ∧ r0 j / 4 = c then 1 else 0) = some z → f_X10_start_190 M2 (some (n + 31)) (nI p) (nI (ls_fq σ p n0 r0 c).1) (nI (480 * p)) (nI ((ls_fq σ p n0 r0 c).1 - n0)) (nI n0) (nI c) = some z := fun {z} q => by
                    refine bx (ls_fI h2 3 (by decide)) (iff_ (show ¬ nI (τ2 3 0) ≤ nI c by rw [e3]; exact nI_ge hc2 (by omega)) (bx (ls_fI h2 7 (by decide)) (iff_ (show ¬ nI (τ2 7 0) ≤ nI ((ls_fq σ p n0 r0 c).1 - n0) by rw [e7]; exact nI_ge (by omega) (by omega)) ?_)))
                    obtain ⟨w, hw, rfl⟩ := pe_cnt (body := fun y : Int32 × Int32 => f_X10_start_214 M2 (some (n + 31)) (nI p) (nI (ls_fq σ p n0 r0 c).1) (nI (480 * p)) (nI ((ls_fq σ p n0 r0 c).1 - n0)) (nI n0) (nI c) y.1 y.2) (x := (0, 0)) (fun i y => y = ((if ∃ j, j < i ∧ r0 j / 4 = c then (1 : Int32) else 0), nI i)) (fun w => w = z) n0 (by rw [if_neg (fun ⟨j, hj, _⟩ => absurd hj (Nat.not_lt_zero j))]; rfl) (by
                      rintro i y hi rfl
                      have hri := ls_o4_lt a4 O1 i (by omega)
                      rw [a2 i hi] at hri
                      have A : mm_aI M2 (some (ls_ad n 9)) 12 (nI (480 * p) + nI i) = some (nI (r0 i)) := by
                        rw [nI_add, ← a2 i hi, ← hr2 i (by omega)]
                        exact ls_aI h2 9 _ (by decide) (show 480 * p + i < 1920 by omega)
                      have ed : nI (r0 i) / 4 = nI (r0 i / 4) := pk_div (d := 4) (by omega) (by omega) (by omega)
                      have hn : ∀ s0, f_X10_start_247 M2 (some (n + 31)) (nI p) (nI (ls_fq σ p n0 r0 c).1) (nI (480 * p)) (nI ((ls_fq σ p n0 r0 c).1 - n0)) (nI n0) (nI c) (nI i) s0 = some (.inl (s0, nI (i + 1))) := fun s0 => by
                        show some (Sum.inl (s0, nI i + 1)) = _
                        rw [nI_1]
                      by_cases hin : ∃ j, j < i ∧ r0 j / 4 = c
                      · obtain ⟨j, hj, hj2⟩ := hin
                        rw [if_pos ⟨j, hj, hj2⟩]
                        exact ⟨_, iff_ (nI_ge hi (by omega)) (iff_ ne10 (hn 1)), by rw [if_pos ⟨j, by omega, hj2⟩]⟩
                      · rw [if_neg hin]
                        by_cases eb : r0 i / 4 = c
                        · exact ⟨_, iff_ (nI_ge hi (by omega)) (ift rfl (bx (ls_fR h2 9 (by decide)) (bx A (ift (by rw [ed, eb]) (hn 1))))), by rw [if_pos ⟨i, by omega, eb⟩]⟩
                        · refine ⟨_, iff_ (nI_ge hi (by omega)) (ift rfl (bx (ls_fR h2 9 (by decide)) (bx A (iff_ (fun q => eb ((nI_eq (by omega) (by omega)).mp (ed.symm.trans q))) (hn 0))))), ?_⟩
                          rw [if_neg (fun ⟨j, hj, hj2⟩ => by
                            by_cases e : j = i
                            · exact eb (e ▸ hj2)
                            · exact hin ⟨j, by omega, hj2⟩)]) (by
                      rintro y rfl
                      exact ⟨z, ift (nI_le (Nat.le_refl _) (by omega)) (mpx q), rfl⟩)
                    exact hw
                  have hn : ∀ (M3 : mm_M) (u v : Int32), f_X10_start_365 M3 (some (n + 31)) (nI p) u (nI (480 * p)) v (nI n0) (nI c) = some (.inl (M3, u, v, nI (c + 1))) := fun M3 u v => by
                    show some (Sum.inl (M3, u, v, nI c + 1)) = _
                    rw [nI_1]
                  have hFq : ls_fq σ p n0 r0 (c + 1) = if ls_fc σ p n0 r0 (ls_fq σ p n0 r0 c).1 c then ((ls_fq σ p n0 r0 c).1 + 1, fun i => if i = (ls_fq σ p n0 r0 c).1 then 4 * c + ls_ff σ (480 * p + 4 * c) (σ 0 c) 0 else (ls_fq σ p n0 r0 c).2 i) else ls_fq σ p n0 r0 c := rfl
                  rw [hFq]
                  by_cases h1 : ∃ j, j < n0 ∧ r0 j / 4 = c
                  · obtain ⟨j, hj, hj2⟩ := h1
                    rw [if_neg (fun q => q.2.2.1 j hj hj2)]
                    rw [if_pos ⟨j, hj, hj2⟩] at L1
                    exact ⟨_, L1 (L2 (iff_ ne10 (hn M2 _ _))), ⟨M2, τ2, rfl, h2, re2, hr2⟩, hc2⟩
                  · rw [if_neg h1] at L1
                    by_cases h3 : ls_ff σ (480 * p + 4 * c) (σ 0 c) 0 < σ 0 c
                    · obtain ⟨M3, τ3, f3, hm3, v3⟩ := ls_leanedOn h2 (ls_re_O1 re2 O1) (ls_re_O3 re2 hG.2.2.1) (p := p) (c := c) hp (by rw [e3]; exact hc2) (by omega)
                      have re3 := ls_re_v re2 v3
                      have e23 : τ3 2 c = σ 2 c := by rw [re3.1 2 (by omega) (by omega) (by omega)]
                      have hkk : ∀ j, ls_kk τ2 p (τ2 1 (4 * c + j)) = ls_kk σ p (σ 1 (4 * c + j)) := fun j => by
                        rw [re2.1 1 (by omega) (by omega) (by omega)]
                        by_cases hk : ls_knc σ p (σ 1 (4 * c + j))
                        · exact (if_pos ((ls_re_knc re2 _).mpr hk)).trans (if_pos hk).symm
                        · exact (if_neg (fun q => hk ((ls_re_knc re2 _).mp q))).trans (if_neg hk).symm
                      rw [e2c, ls_sm_cg (g := fun j => ls_kk σ p (σ 1 (4 * c + j))) (fun j _ => hkk j)] at f3
                      have hkb : ∀ j, ls_kk σ p (σ 1 (4 * c + j)) ≤ 1 := fun j => by
                        show (if _ then 1 else 0) ≤ 1
                        split <;> omega
                      have hle := ls_sm_le (f := fun j => ls_kk σ p (σ 1 (4 * c + j))) (N := σ 2 c) (fun j _ => hkb j)
                      have hseq := ls_sm_eq (f := fun j => ls_kk σ p (σ 1 (4 * c + j))) (N := σ 2 c) (fun j _ => hkb j)
                      have l4 := (O1.2.2 c hc2).1
                      have hrdy : ls_sm (fun j => ls_kk σ p (σ 1 (4 * c + j))) (σ 2 c) = σ 2 c ↔ ls_rdy σ p c := by
                        rw [hseq]
                        constructor
                        · intro q j hj
                          have := q j hj
                          by_cases hk : ls_knc σ p (σ 1 (4 * c + j))
                          · exact hk
                          · have e : ls_kk σ p (σ 1 (4 * c + j)) = 0 := if_neg hk
                            omega
                        · intro q j hj
                          exact if_pos (q j hj)
                      have Z : ∀ {z}, (if nI (ls_sm (fun j => ls_kk σ p (σ 1 (4 * c + j))) (σ 2 c)) = nI (σ 2 c) then f_X10_start_344 M3 (some (n + 31)) (nI p) (nI (ls_fq σ p n0 r0 c).1) (nI (480 * p)) (nI ((ls_fq σ p n0 r0 c).1 - n0)) (nI n0) (nI c) (nI (ls_ff σ (480 * p + 4 * c) (σ 0 c) 0)) else f_X10_start_365 M3 (some (n + 31)) (nI p) (nI (ls_fq σ p n0 r0 c).1) (nI (480 * p)) (nI ((ls_fq σ p n0 r0 c).1 - n0)) (nI n0) (nI c)) = some z → f_X10_start_190 M2 (some (n + 31)) (nI p) (nI (ls_fq σ p n0 r0 c).1) (nI (480 * p)) (nI ((ls_fq σ p n0 r0 c).1 - n0)) (nI n0) (nI c) = some z := fun q => L1 (L2 (ift rfl (bx (ls_fR h2 0 (by decide)) (bx (ls_aI h2 0 c (by decide) (show c < 120 by omega)) (iff_ (show ¬ nI (τ2 0 c) ≤ _ by rw [e0]; exact nI_ge h3 (by omega)) (bx (ls_rc h2) (b2x f3 (bx (ls_fR hm3 2 (by decide)) (bx (a := nI (σ 2 c)) (by rw [← e23]; exact ls_aI hm3 2 c (by decide) (show c < 120 by omega)) q)))))))))
                      have hr3 : ∀ j, j < (ls_fq σ p n0 r0 c).1 → τ3 9 (480 * p + j) = (ls_fq σ p n0 r0 c).2 j := fun j hj => by
                        rw [v3 9 (ls_nx_of (by omega) (by omega))]
                        exact hr2 j hj
                      by_cases h5 : ls_rdy σ p c
                      · have hfc : ls_fc σ p n0 r0 (ls_fq σ p n0 r0 c).1 c := ⟨by omega, h3, fun j hj q => h1 ⟨j, hj, q⟩, h5⟩
                        rw [if_pos hfc]
                        obtain ⟨M4, e4, h4⟩ := ls_tI hm3 9 (480 * p + (ls_fq σ p n0 r0 c).1) (4 * c + ls_ff σ (480 * p + 4 * c) (σ 0 c) 0) (by decide) rfl (show _ < 1920 by omega)
                        refine ⟨(M4, nI ((ls_fq σ p n0 r0 c).1 + 1), nI ((ls_fq σ p n0 r0 c).1 + 1 - n0), nI (c + 1)), Z (ift (by rw [hrdy.mpr h5]) (bx (ls_fR hm3 9 (by decide)) (bx (a := M4) (by rw [nI_add, ls_ix4]; exact e4) ?_))), ⟨M4, _, rfl, h4, ls_re_9 re3 (by omega) _, fun j hj => ?_⟩, hc2⟩
                        · rw [hn, nI_1, nI_1, show (ls_fq σ p n0 r0 c).1 - n0 + 1 = (ls_fq σ p n0 r0 c).1 + 1 - n0 by omega]
                        · rw [mm_u]
                          show _ = if j = (ls_fq σ p n0 r0 c).1 then 4 * c + ls_ff σ (480 * p + 4 * c) (σ 0 c) 0 else (ls_fq σ p n0 r0 c).2 j
                          by_cases e : j = (ls_fq σ p n0 r0 c).1
                          · rw [if_pos ⟨rfl, by rw [e]⟩, if_pos e]
                          · rw [if_neg (by omega), if_neg e]
                            exact hr3 j (by
                              have hj : j < (ls_fq σ p n0 r0 c).1 + 1 := hj
                              omega)
                      · rw [if_neg (fun q => h5 q.2.2.2)]
                        exact ⟨_, Z (iff_ (fun q => h5 (hrdy.mp ((nI_eq (by omega) (by omega)).mp q))) (hn M3 _ _)), ⟨M3, τ3, rfl, hm3, re3, hr3⟩, hc2⟩
                    · rw [if_neg (fun q => h3 q.2.1)]
                      exact ⟨_, L1 (L2 (ift rfl (bx (ls_fR h2 0 (by decide)) (bx (ls_aI h2 0 c (by decide) (show c < 120 by omega)) (ift (show nI (τ2 0 c) ≤ _ by rw [e0]; exact nI_le (by omega) (by omega)) (hn M2 _ _)))))), ⟨M2, τ2, rfl, h2, re2, hr2⟩, hc2⟩)
          exact ⟨z, X hz, hQ⟩)
      obtain ⟨υ, rs, he, u8, u10, u9⟩ := ls_re_part reF
      obtain ⟨f1, f2, f3, f4⟩ := ls_fq_ok O1 p hq0 (σ 3 0) (Nat.le_refl _)
      have hcl : lc n υ M MB := lc_row hc hp dB.1 rs O4 h120 (by rw [dB.2, i5.1, u8]) (by rw [wB.2.2.2.2.1, u10, t10]) (fun i hi => by rw [u10, t10] at hi; rw [wB.2.2.2.2.2 i hi, u9, t9 i hi])
      have hGu : ls_G k υ := ls_G_row hG hp rs u8 (by
        rw [u10, t10]
        exact ls_o4_eq f4 (fun i hi => (u9 _).trans (t9 i hi)))
      have kA : mm_k MA n = some (10, 0) := (lc_di_k dA.1 n).trans (lc_k0 hc)
      have iA : mm_I MA n 10 = nI (σ 7 0) := by
        have hn : ¬ lc_rc n p n := by have := lc_lo29 np; unfold lc_rc; omega
        exact ((dA.1.2.2.2 n hn).1 10).trans i1.2.2
      refine ⟨_, MB, MF, bx (pe_rc (lc_k0 hc)) (bx (lc_learnerAt hc hp) (iff_ (fun q => nomatch q) (bx (pfI kl i5.2) (ift (by rw [h0]; decide) (bx (pfI (lc_k0 hc) i1.2.1) (bx (lc_r0 hc 0 1 (by decide)) (bx (pe_rc kl) (bx eA (bx (pfI kA iA) (bx (lc_r0 hlA 1 3 (by decide)) (bx (lc_r0 hlA 0 1 (by decide)) (bx (pe_rc wA.1) (bx eB (bx (pfI wB.1 wB.2.2.2.2.1) rfl)))))))))))))), bx (ls_isPupil_in _ hp) (iff_ ne10 (bx (ls_fR hMB 10 (by decide)) (bx (ls_aI hMB 10 p (by decide) hp) (ift (show nI (σ 10 p) ≤ 0 by rw [h0]; decide) ?_)))), ls_fin hF (lc_e0 hcl he) (ls_G_e hGu he)⟩
      show f_X10_start_32w MB (some (n + 31)) (nI p) 0 (nI p * 480) 0 = _
      rw [ls_ix1]
      exact hz
    · exact ⟨-5, M, M, bx (pe_rc (lc_k0 hc)) (bx (lc_learnerAt hc hp) (iff_ (fun q => nomatch q) (bx (pfI kl i5.2) (iff_ (nI_nle (by omega) (by omega)) rfl)))), bx (ls_isPupil_in M hp) (iff_ ne10 (bx (ls_fR hM 10 (by decide)) (bx (ls_aI hM 10 p (by decide) hp) (iff_ (show ¬ nI (σ 10 p) ≤ 0 from nI_nle (by omega) (by omega)) rfl)))), ls_no hM hc hG⟩
  · exact ⟨-1, M, M, bx (pe_rc (lc_k0 hc)) (bx (lc_learnerOut hc hx) (ift rfl rfl)), bx (ls_isPupil_out M hx) (ift rfl rfl), ls_no hM hc hG⟩
end
