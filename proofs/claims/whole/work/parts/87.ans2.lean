section
variable {n k : Nat} {σ τ υ : ls_S} {B M M1 : mm_M}
theorem cl_comesBack {μ g : Nat} {v : ls_V} (h : lc_at M μ v) (hv : v.2.2.2.2 < 2 ^ 31) (i11 : mm_I M μ 6 = nI g) (hg : g < 2 ^ 31) : f_X8_comesBack M (some μ) = some (if v.2.2.2.2 < 8 ∧ g < 2 then (1, mm_sI M μ 6 (nI (g + 1))) else (0, M)) := by
  have hl := lc_isLeech h hv
  by_cases h8 : v.2.2.2.2 < 8
  · rw [if_pos h8] at hl
    by_cases h2 : g < 2
    · rw [if_pos ⟨h8, h2⟩]
      exact bx (pe_rc h.1) (bx hl (ift rfl (bx (pfI h.1 i11) (ift (nI_lt (b := 2) h2 (by omega)) (bx (pfI h.1 i11) (bx (a := mm_sI M μ 6 (nI (g + 1))) (by rw [nI_1]; exact pe_pI 6 _ h.1) rfl))))))
    · rw [if_neg (fun q => h2 q.2)]
      exact bx (pe_rc h.1) (bx hl (ift rfl (bx (pfI h.1 i11) (iff_ (nI_nlt (a := g) (b := 2) (by omega) hg) rfl))))
  · rw [if_neg h8] at hl
    rw [if_neg (fun q => h8 q.1)]
    exact bx (pe_rc h.1) (bx hl (iff_ ne10 rfl))
theorem ca_answer (hM : ls_M n σ M M) (hc : lc n σ M M) (hG : ls_G k σ) (hk : k < 512) (x y : Int32) : ls_cc n k M (fun M => f_X9_answer M (some n) x y) (fun M => f_X10_answer M (some (n + 31)) x y) := by
  rcases pe_pupil x with ⟨p, hp, rfl⟩ | hx
  · by_cases hy : 0 ≤ y ∧ y ≤ 3
    · obtain ⟨a, ha, rfl⟩ := pe_argle (n := 3) (by omega) hy.1 hy.2
      have i5 := hc.2.1.2.2.2.2.1 p hp
      have O1 := hG.1
      have O4 := hG.2.2.2.1
      have o4 := ls_o4_of O4 hp
      have h120 := O1.1
      have hl := (O4 p hp).1
      have np : p < 5 := by omega
      have kl := lc_kla hc np
      have h28 := hG.2.2.2.2.1.1
      have t5 := hG.2.1.2.2.2.2 p hp
      by_cases h0 : σ 10 p = 0
      · exact ⟨-4, M, M, bx (pe_rc (lc_k0 hc)) (bx (lc_learnerAt hc hp) (iff_ (fun q => nomatch q) (bx (cl_isAnswer_in M hy) (iff_ ne10 (bx (pfI kl i5.2) (ift (by rw [h0]; decide) rfl)))))), bx (ls_isPupil_in M hp) (iff_ ne10 (bx (ls_within_in M hy) (iff_ ne10 (bx (ls_fR hM 10 (by decide)) (bx (ls_aI hM 10 p (by decide) hp) (ift (show nI (σ 10 p) = 0 by rw [h0]; decide) rfl)))))), ls_no hM hc hG⟩
      · have hpl : ls_pl σ (σ 9 (480 * p)) := (O4 p hp).2.1 0 (by omega)
        obtain ⟨c, s, hc1, hs1, eq⟩ : ∃ c s, c < σ 3 0 ∧ s < σ 0 c ∧ σ 9 (480 * p) = 4 * c + s := ⟨_, _, hpl.1, hpl.2, by omega⟩
        have h4 := (O1.2.1 c hc1).2
        obtain ⟨ok1, ok2, ok3⟩ := ls_G_ok hG hp hc1 hs1
        have rw0 := lc_rw_of hc hp O4 h120
        obtain ⟨MA, eA, dA, wA⟩ := cl_dropFirst rw0 (by omega) (fun i hi => by have := ls_o4_lt o4 O1 i hi; omega) (ls_o4_ne o4)
        have hA0 := lc_sr hc hp O4 h120 dA wA
        obtain ⟨σA, hσA⟩ : ∃ x, x = ls_sr σ p (σ 10 p - 1) (fun j => σ 9 (480 * p + (j + 1))) := ⟨_, rfl⟩
        have hA : lc n σA M MA := by rw [hσA]; exact hA0
        have fA : ∀ f, f ≠ 9 → f ≠ 10 → σA f = σ f := fun f a b => by rw [hσA]; exact ls_sr_f σ p _ _ a b
        have rsA : ls_rs σ σA p := by rw [hσA]; exact ls_sr_rs σ _ _
        have tA : σA 10 p = σ 10 p - 1 := by rw [hσA]; exact ls_sr_10 σ p _ _
        have nA : ∀ i, i < 480 → σA 9 (480 * p + i) = σ 9 (480 * p + (i + 1)) := fun i hi => by rw [hσA]; exact ls_sr_9 σ p _ _ hi
        have atA' : ∀ q, ls_at σA q = ls_at σ q := fun q => by
          unfold ls_at
          rw [fA 13 (by omega) (by omega), fA 14 (by omega) (by omega), fA 15 (by omega) (by omega), fA 16 (by omega) (by omega), fA 17 (by omega) (by omega)]
        have o4A : ls_o4 σ (σ 10 p - 1) (fun j => σ 9 (480 * p + (j + 1))) := ls_o4_map o4 (fun i => i + 1) (by omega) (fun i hi => by show i + 1 < _; omega) (fun i hi j hj => by show i + 1 ≠ j + 1; omega)
        clear hA0 hσA
        have e3A : σA 3 0 = σ 3 0 := by rw [fA 3 (by omega) (by omega)]
        have e0A : σA 0 = σ 0 := fA 0 (by omega) (by omega)
        have muA : lc_mu n MA p c s = lc_mu n M p c s := lc_sk_mu (lc_di_sk dA.1) p c s
        have atA := lc_at_of hA np (c := c) (s := s) (by rw [e3A]; exact hc1) (by rw [e0A]; exact hs1)
        rw [atA' _, muA] at atA
        have hfA := hA.1.2.1.2.2.2
        obtain ⟨MD, MX, fD, fX, neX⟩ := cl_newEntry hfA (p := p) (q := 4 * c + s) (day := σ 8 p) (a := a) (r := σ 4 0) (b := σ 5 a) atA (by omega)
        rw [← Nat.add_assoc] at neX
        have e28A : σA 28 0 = σ 28 0 := by rw [fA 28 (by omega) (by omega)]
        obtain ⟨MB, fB, kB, hB0, muB, -⟩ := cl_logAdd hA (by omega) neX
        rw [e28A] at hB0
        have muB' : lc_mu n MB p c s = lc_mu n M p c s := (muB p np c (by rw [e3A]; exact hc1) s (by rw [e0A]; exact hs1)).trans muA
        obtain ⟨w, hw⟩ : ∃ w, w = ls_wv (480 * p + 4 * c + s) (σ 8 p) a (σ 4 0) (σ 5 a) (ls_at σ (480 * p + 4 * c + s)) := ⟨_, rfl⟩
        have hB : lc n (ls_la σA (σ 28 0) w) M MB := by rw [hw]; exact hB0
        have eB : ∀ f, f < 18 → ls_la σA (σ 28 0) w f = σA f := fun f hf => ls_la_f σA _ w (by omega)
        have e3B : ls_la σA (σ 28 0) w 3 0 = σ 3 0 := by rw [eB 3 (by omega)]; exact e3A
        have e0B : ls_la σA (σ 28 0) w 0 = σ 0 := (eB 0 (by omega)).trans e0A
        have OB : ls_O1 (ls_la σA (σ 28 0) w) := by
          unfold ls_O1
          rw [eB 0 (by omega), eB 1 (by omega), eB 2 (by omega), eB 3 (by omega), fA 0 (by omega) (by omega), fA 1 (by omega) (by omega), fA 2 (by omega) (by omega), fA 3 (by omega) (by omega)]
          exact O1
        have aB := lc_at_of hB np (c := c) (s := s) (by rw [e3B]; exact hc1) (by rw [e0B]; exact hs1)
        rw [ls_at_la, atA', muB'] at aB
        obtain ⟨MC, fC, dC, aC⟩ := lc_move aB (lc_cv_of hB) (r := σ 4 0) (b := σ 5 a) (ac := a) (on := σ 8 p) hG.2.1.1 (hG.2.1.2.1 a (by omega)) ha ok1 (by omega)
        have hC := lc_pt_of hB OB np (c := c) (s := s) (by rw [e3B]; exact hc1) (by rw [e0B]; exact hs1) (by rw [muB']; exact dC) (by rw [muB']; exact aC)
        have muC : lc_mu n MC p c s = lc_mu n M p c s := (lc_sk_mu (lc_sk_df dC) p c s).trans muB'
        have h5a := ls_aB_5 (σ 4 0) (σ 5 a) a (σ 8 p) (ls_at σ (480 * p + 4 * c + s))
        have hag : (ls_at σ (480 * p + 4 * c + s)).2.2.2.2 ≤ k := by
          have := (hG.2.2.2.2.2.2.2 p hp (4 * c + s) (by omega)).1
          rwa [← Nat.add_assoc] at this
        have hv5 : (ls_aB (σ 4 0) (σ 5 a) a (σ 8 p) (ls_at σ (480 * p + 4 * c + s))).2.2.2.2 < 2 ^ 31 := by rw [h5a]; split <;> omega
        have hGa := ls_G_aw hG hk hp hc1 hs1 ha
        have hZ : ls_aw σ p (480 * p + 4 * c + s) a = ls_pt (ls_la σ (σ 28 0) w) (480 * p + 4 * c + s) (ls_aB (σ 4 0) (σ 5 a) a (σ 8 p) (ls_at σ (480 * p + 4 * c + s))) := by rw [hw]; rfl
        -- the class's state behind the move
        obtain ⟨σC, hσC⟩ : ∃ x, x = ls_pt (ls_la σA (σ 28 0) w) (480 * p + 4 * c + s) (ls_aB (σ 4 0) (σ 5 a) a (σ 8 p) (ls_at σ (480 * p + 4 * c + s))) := ⟨_, rfl⟩
        rw [← hσC] at hC
        have fC0 : ∀ f, f < 11 → σC f = σA f := fun f hf => by rw [hσC]; exact (ls_pt_f _ _ _ (by omega)).trans (eB f (by omega))
        have fC1 : ∀ f, f ≠ 9 → f ≠ 10 → σC f = ls_aw σ p (480 * p + 4 * c + s) a f := fun f h1 h2 => by
          rw [hσC, hZ]
          exact ls_pt_c (ls_la_c (fA f h1 h2) _ _) _ _
        have dSC : ls_D σ (ls_aw σ p (480 * p + 4 * c + s) a) σC p (σ 10 p - 1) (fun i => σ 9 (480 * p + (i + 1))) := by
          refine ⟨fun f _ h9 h10 _ => fC1 f h9 h10, fun q hq => ?_, ?_, fun i hi => ?_, fun q hq hne => ⟨?_, fun i hi => ?_⟩⟩
          · rw [fC0 8 (by omega), fA 8 (by omega) (by omega)]
          · rw [fC0 10 (by omega)]; exact tA
          · rw [fC0 9 (by omega)]; exact nA i (by omega)
          · rw [fC0 10 (by omega)]; exact (rsA.2 q hne hq).2.1
          · rw [fC0 9 (by omega)]; exact (rsA.2 q hne hq).2.2 i hi
        clear hσC
        have OC : ls_O1 σC := by
          unfold ls_O1
          rw [fC0 0 (by omega), fC0 1 (by omega), fC0 2 (by omega), fC0 3 (by omega), fA 0 (by omega) (by omega), fA 1 (by omega) (by omega), fA 2 (by omega) (by omega), fA 3 (by omega) (by omega)]
          exact O1
        have i5C : mm_I MC (n + lc_lo p) 2 = nI (σ 10 p - 1) := by
          rw [(hC.2.1.2.2.2.2.1 p hp).2, fC0 10 (by omega), tA]
        have e3C : σC 3 0 = σ 3 0 := by rw [fC0 3 (by omega)]; exact e3A
        have e0C : σC 0 = σ 0 := (fC0 0 (by omega)).trans e0A
        have e11C : σC 11 (480 * p + 4 * c + s) = σ 11 (480 * p + 4 * c + s) := by
          rw [fC1 11 (by omega) (by omega), ls_aw_f σ p _ a (by omega)]
        have i11 : mm_I MC (lc_mu n M p c s) 6 = nI (σ 11 (480 * p + 4 * c + s)) := by
          have q := hC.2.1.2.2.2.2.2.2.1 p np c (by rw [e3C]; exact hc1) s (by rw [e0C]; exact hs1) 6 (by omega)
          rw [muC] at q
          rw [← e11C]
          exact q
        have g2 : σ 11 (480 * p + 4 * c + s) ≤ 2 := hG.2.2.2.2.2.2.1.2 _ ok3
        -- the class's way as far as the move
        have k80 : ∀ {q x}, mm_k MA q = some x → mm_k (mm_nw MA (4, 0)) q = some x ∧ ∀ j, mm_I (mm_nw MA (4, 0)) q j = mm_I MA q j := fun {q x} hq => by
          have hlt := gw_lt hfA hq
          exact ⟨by rw [mm_kw, if_neg (by omega)]; exact hq, fun j => by rw [mm_Iw, if_neg (by omega)]⟩
        have i3A : mm_I MA (n + lc_lo p) 3 = nI (σ 8 p) := by rw [(hA.2.1.2.2.2.2.1 p hp).1, fA 8 (by omega) (by omega)]
        have i8A : mm_I MA n 8 = nI (σ 4 0) := by rw [hA.2.1.1.1, fA 4 (by omega) (by omega)]
        have i19A : mm_I MA (n + 18) a = nI (σ 5 a) := by rw [hA.2.1.2.1 a (by omega), fA 5 (by omega) (by omega)]
        have i3B : mm_I MB (n + lc_lo p) 3 = nI (σ 8 p) := by rw [(hB.2.1.2.2.2.2.1 p hp).1, eB 8 (by omega), fA 8 (by omega) (by omega)]
        have i8B : mm_I MB n 8 = nI (σ 4 0) := by rw [hB.2.1.1.1, eB 4 (by omega), fA 4 (by omega) (by omega)]
        have kA0 := k80 (lc_k0 hA)
        have kAl := k80 (lc_kla hA np)
        have kAm := k80 atA.1
        have first : f_X6_first M (some (n + lc_lo p)) = some (nI (4 * c + s)) := by rw [← eq]; exact cl_first rw0 (by omega)
        have CW : ∀ {r}, (if nI a = 0 then f_X9_answer_134 MC (some (n + lc_lo p)) (nI (4 * c + s)) (some (lc_mu n M p c s)) else f_X9_answer_148 MC (some (n + lc_lo p))) = r → f_X9_answer M (some n) (nI p) (nI a) = r := fun {r} q => bx (pe_rc (lc_k0 hc)) (bx (lc_learnerAt hc hp) (iff_ (fun q => nomatch q) (bx (cl_isAnswer_in M hy) (iff_ ne10 (bx (pfI kl i5.2) (iff_ (nI_ne0 (by omega) (by omega)) (bx (lc_r0 hc 4 11 (by decide)) (bx (pe_rc (lc_kent hc)) (bx (lc_esz hc) (ift (nI_lt (b := 3000) (by omega) (by omega)) (bx (pe_rc kl) (bx first (bx (pe_rc kl) (bx (lc_memAt hc O1 np hc1 hs1) (bx (pe_rc kl) (bx eA (iff_ (fun q => nomatch q) (bx (lc_r0 hA 7 18 (by decide)) (bx (paI (lc_k hA (18, 12, 4) (by decide)) (show a < 4 by omega) (by omega) i19A) (bx (lc_r0 hA 4 11 (by decide)) (bx (pfI kAl.1 ((kAl.2 3).trans i3A)) (bx (pfI kA0.1 ((kA0.2 8).trans i8A)) (bx (pe_rc kAm.1) (b2x fD (bx fX (bx (pe_rc kB) (b2x fB (bx (pfI (lc_k0 hB) i8B) (bx (pfI (lc_kla hB np) i3B) (bx (lc_r0 hB 0 1 (by decide)) (bx (pe_rc aB.1) (bx fC q))))))))))))))))))))))))))))))))
        -- the model's way
        have MW : ∀ {M1 : mm_M}, ls_M n σ M1 M1 → ∀ {r}, f_X10_answer_43 M1 (some (n + 31)) (nI p) (nI a) = r → f_X10_answer M1 (some (n + 31)) (nI p) (nI a) = r := fun {M1} hM1 {r} q => bx (ls_isPupil_in M1 hp) (iff_ ne10 (bx (ls_within_in M1 hy) (iff_ ne10 (bx (ls_fR hM1 10 (by decide)) (bx (ls_aI hM1 10 p (by decide) hp) (iff_ (show ¬ nI (σ 10 p) = 0 from nI_ne0 (by omega) (by omega)) (bx (ls_fI hM1 28 (by decide)) (iff_ (show ¬ nI (σ 28 0) = nI 3000 from fun q => by have := (nI_eq (a := σ 28 0) (b := 3000) (by omega) (by omega)).mp q; omega) q))))))))
        have h480 : ∀ q, q < 4 → σ 10 q ≤ 480 := fun q hq => by have := (O4 q hq).1; omega
        -- what the model's state is
        have YD : ∀ {X Y : ls_S}, ls_v (ls_aw σ p (480 * p + 4 * c + s) a) X → ls_rs X Y p → Y 8 p = X 8 p → Y 10 p = X 10 p - 1 → (∀ i, i < X 10 p - 1 → Y 9 (480 * p + i) = X 9 (480 * p + (i + 1))) → ls_D σ (ls_aw σ p (480 * p + 4 * c + s) a) Y p (σ 10 p - 1) (fun i => σ 9 (480 * p + (i + 1))) := by
          intro X Y hv rs y8 y10 y9
          have x := fun {f} (hf : f < 11) => (ls_vf hv (f := f) (by omega) (by omega)).trans (ls_aw_f σ p (480 * p + 4 * c + s) a (by omega))
          refine ⟨fun f h8 h9 h10 hf => (rs.1 f h8 h9 h10).trans (ls_vf hv (by omega) (by omega)), fun q hq => ?_, ?_, fun i hi => ?_, fun q hq hne => ⟨?_, fun i hi => ?_⟩⟩
          · by_cases e : q = p
            · rw [e, y8, x (by omega)]
            · rw [(rs.2 q e hq).1, x (by omega)]
          · rw [y10, x (by omega)]
          · rw [y9 i (by rw [x (by omega)]; exact hi), x (by omega)]
          · rw [(rs.2 q hne hq).2.1, x (by omega)]
          · rw [(rs.2 q hne hq).2.2 i hi, x (by omega)]
        have x3 : ls_aw σ p (480 * p + 4 * c + s) a 3 0 = σ 3 0 := by rw [ls_aw_f σ p _ a (by omega)]
        have x0 : ls_aw σ p (480 * p + 4 * c + s) a 0 = σ 0 := ls_aw_f σ p _ a (by omega)
        have o4X : ∀ {X : ls_S}, X 3 0 = σ 3 0 → X 0 = σ 0 → ∀ {m r}, ls_o4 σ m r → ls_o4 X m r := by
          intro X h3 h0 m r o
          unfold ls_o4 ls_pl
          rw [h3, h0]
          exact o
        by_cases hcb : a = 0 ∧ (ls_aB (σ 4 0) (σ 5 a) a (σ 8 p) (ls_at σ (480 * p + 4 * c + s))).2.2.2.2 < 8 ∧ σ 11 (480 * p + 4 * c + s) < 2
        · -- it comes back
          have hD := lc_wm hC np (c := c) (s := s) (k := 6) (by rw [e3C]; exact hc1) (by rw [e0C]; exact hs1) (by omega) OC (σ 11 (480 * p + 4 * c + s) + 1)
          rw [muC] at hD
          have hD : lc n (mm_u σC 11 (480 * p + 4 * c + s) (σ 11 (480 * p + 4 * c + s) + 1)) M (mm_sI MC (lc_mu n M p c s) 6 (nI (σ 11 (480 * p + 4 * c + s) + 1))) := hD
          have cb := cl_comesBack aC hv5 i11 (by omega)
          rw [if_pos ⟨hcb.2.1, hcb.2.2⟩] at cb
          have fD0 : ∀ f, f ≠ 11 → mm_u σC 11 (480 * p + 4 * c + s) (σ 11 (480 * p + 4 * c + s) + 1) f = σC f := fun f hf => by
            funext j
            rw [mm_u, if_neg (fun q => hf q.1)]
          have O4D : ls_O4 (mm_u σC 11 (480 * p + 4 * c + s) (σ 11 (480 * p + 4 * c + s) + 1)) := by
            intro q hq
            rw [fD0 10 (by omega), fD0 9 (by omega), fD0 3 (by omega), e3C]
            have pl : ∀ z, ls_pl σ z → ls_pl (mm_u σC 11 (480 * p + 4 * c + s) (σ 11 (480 * p + 4 * c + s) + 1)) z := fun z hz => by
              unfold ls_pl
              rw [fD0 3 (by omega), fD0 0 (by omega), e3C, e0C]
              exact hz
            by_cases e : q = p
            · rw [e, dSC.2.2.1]
              refine ⟨by omega, fun i hi => ?_, fun i hi j hj => ?_⟩
              · rw [dSC.2.2.2.1 i hi]; exact pl _ (o4A.2.1 i hi)
              · rw [dSC.2.2.2.1 i hi, dSC.2.2.2.1 j (by omega)]; exact o4A.2.2 i hi j hj
            · have z := dSC.2.2.2.2 q hq e
              have z2 := (O4 q hq).1
              rw [z.1]
              refine ⟨z2, fun i hi => ?_, fun i hi j hj => ?_⟩
              · rw [z.2 i (by omega)]; exact pl _ ((O4 q hq).2.1 i hi)
              · rw [z.2 i (by omega), z.2 j (by omega)]; exact (O4 q hq).2.2 i hi j hj
          have h120D : mm_u σC 11 (480 * p + 4 * c + s) (σ 11 (480 * p + 4 * c + s) + 1) 3 0 ≤ 120 := by rw [fD0 3 (by omega), e3C]; exact h120
          have rwD := lc_rw_of hD hp O4D h120D
          have t10D : mm_u σC 11 (480 * p + 4 * c + s) (σ 11 (480 * p + 4 * c + s) + 1) 10 p = σ 10 p - 1 := by rw [fD0 10 (by omega)]; exact dSC.2.2.1
          rw [t10D] at rwD
          obtain ⟨ME, fE, dE, wE⟩ := cl_append rwD (by omega) (4 * c + s)
          have hE := lc_sr hD hp O4D h120D dE wE
          have kmD : mm_k MC (lc_mu n M p c s) = some (9, 0) := aC.1
          have hmf := hE.2.2
          have hM1 := ls_M_mv hM hmf
          obtain ⟨M1, X, Y, fM, hY, hv, hsc, rs, y8, y10, y9⟩ := ls_ansM hM1 hG hk hp hc1 hs1 ha eq (by omega)
          have dY := YD hv rs y8 y10 y9
          have yf := fun {f} (h8 : f ≠ 8) (h9 : f ≠ 9) (h10 : f ≠ 10) (hf : f < 29 ∨ (34 < f ∧ f < 44)) => dY.1 f h8 h9 h10 hf
          have y11 : Y 11 (480 * p + 4 * c + s) = σ 11 (480 * p + 4 * c + s) := by rw [yf (f := 11) (by omega) (by omega) (by omega) (by omega), ls_aw_f σ p _ a (by omega)]
          have y33 : Y 33 0 = (ls_aB (σ 4 0) (σ 5 a) a (σ 8 p) (ls_at σ (480 * p + 4 * c + s))).2.2.2.2 := by
            rw [rs.1 33 (by omega) (by omega) (by omega)]
            exact congrArg (fun z : ls_V => z.2.2.2.2) hsc
          have lee := ls_isLeech hY (by rw [y33]; exact hv5)
          rw [if_pos (by rw [y33]; exact hcb.2.1)] at lee
          obtain ⟨M2, f2, h2⟩ := ls_tI hY 11 (480 * p + 4 * c + s) (σ 11 (480 * p + 4 * c + s) + 1) (by decide) rfl ok3
          obtain ⟨M3, f3, h3⟩ := ls_tI h2 9 (480 * p + (σ 10 p - 1)) (4 * c + s) (by decide) rfl (show 480 * p + (σ 10 p - 1) < 1920 by omega)
          obtain ⟨M4, f4, h4'⟩ := ls_tI h3 10 p (σ 10 p) (by decide) rfl hp
          have a11 : mm_aI M1 (some (ls_ad n 11)) 12 (nI (480 * p + 4 * c + s)) = some (nI (σ 11 (480 * p + 4 * c + s))) := by rw [← y11]; exact ls_aI hY 11 _ (by decide) ok3
          have a10 : mm_aI M2 (some (ls_ad n 10)) 12 (nI p) = some (nI (σ 10 p - 1)) := by
            have q := ls_aI h2 10 p (by decide) hp
            rw [mm_u, if_neg (by omega), dY.2.2.1] at q
            exact q
          have a10' : mm_aI M3 (some (ls_ad n 10)) 12 (nI p) = some (nI (σ 10 p - 1)) := by
            have q := ls_aI h3 10 p (by decide) hp
            rw [mm_u, if_neg (by omega), mm_u, if_neg (by omega), dY.2.2.1] at q
            exact q
          have a10'' : mm_aI M4 (some (ls_ad n 10)) 12 (nI p) = some (nI (σ 10 p)) := by
            have q := ls_aI h4' 10 p (by decide) hp
            rw [mm_u, if_pos ⟨rfl, rfl⟩] at q
            exact q
          have ef : nI (σ 10 p) = nI (σ 10 p - 1) + 1 := by rw [nI_1]; congr 1; omega
          have dF : ls_D σ (mm_u (ls_aw σ p (480 * p + 4 * c + s) a) 11 (480 * p + 4 * c + s) (σ 11 (480 * p + 4 * c + s) + 1)) (mm_u (mm_u (mm_u Y 11 (480 * p + 4 * c + s) (σ 11 (480 * p + 4 * c + s) + 1)) 9 (480 * p + (σ 10 p - 1)) (4 * c + s)) 10 p (σ 10 p)) p (σ 10 p) (fun i => if i = σ 10 p - 1 then 4 * c + s else σ 9 (480 * p + (i + 1))) := by
            refine ⟨fun f h8 h9 h10 hf => ?_, fun q hq => ?_, ?_, fun i hi => ?_, fun q hq hne => ⟨?_, fun i hi => ?_⟩⟩
            · funext j
              rw [mm_u, if_neg (fun z => h10 z.1), mm_u, if_neg (fun z => h9 z.1)]
              exact congrFun (mm_u_f (dY.1 f h8 h9 h10 hf) _ _ _) j
            · rw [mm_u, if_neg (by omega), mm_u, if_neg (by omega), mm_u, if_neg (by omega)]; exact dY.2.1 q hq
            · rw [mm_u, if_pos ⟨rfl, rfl⟩]
            · rw [mm_u, if_neg (by omega), mm_u]
              by_cases e : i = σ 10 p - 1
              · rw [if_pos ⟨rfl, by rw [e]⟩]
                exact (if_pos e).symm
              · rw [if_neg (by omega), mm_u, if_neg (by omega), dY.2.2.2.1 i (by omega)]
                exact (if_neg e).symm
            · rw [mm_u, if_neg (by omega), mm_u, if_neg (by omega), mm_u, if_neg (by omega)]; exact (dY.2.2.2.2 q hq hne).1
            · rw [mm_u, if_neg (by omega), mm_u, if_neg (by omega), mm_u, if_neg (by omega)]; exact (dY.2.2.2.2 q hq hne).2 i hi
          have dE2 : ls_D σ (mm_u (ls_aw σ p (480 * p + 4 * c + s) a) 11 (480 * p + 4 * c + s) (σ 11 (480 * p + 4 * c + s) + 1)) (ls_sr (mm_u σC 11 (480 * p + 4 * c + s) (σ 11 (480 * p + 4 * c + s) + 1)) p (σ 10 p - 1 + 1) (fun i => if i = σ 10 p - 1 then 4 * c + s else mm_u σC 11 (480 * p + 4 * c + s) (σ 11 (480 * p + 4 * c + s) + 1) 9 (480 * p + i))) p (σ 10 p) (fun i => if i = σ 10 p - 1 then 4 * c + s else σ 9 (480 * p + (i + 1))) := by
            have q := ls_sr_rs (mm_u σC 11 (480 * p + 4 * c + s) (σ 11 (480 * p + 4 * c + s) + 1)) (p := p) (σ 10 p - 1 + 1) (fun i => if i = σ 10 p - 1 then 4 * c + s else mm_u σC 11 (480 * p + 4 * c + s) (σ 11 (480 * p + 4 * c + s) + 1) 9 (480 * p + i))
            refine ⟨fun f h8 h9 h10 hf => ?_, fun q2 hq2 => ?_, ?_, fun i hi => ?_, fun q2 hq2 hne => ⟨?_, fun i hi => ?_⟩⟩
            · rw [ls_sr_f _ _ _ _ h9 h10]
              exact mm_u_f (dSC.1 f h8 h9 h10 hf) _ _ _
            · rw [ls_sr_f _ _ _ _ (by omega) (by omega), fD0 8 (by omega)]; exact dSC.2.1 q2 hq2
            · rw [ls_sr_10]; omega
            · rw [ls_sr_9 _ _ _ _ (by omega)]
              show (if i = σ 10 p - 1 then 4 * c + s else mm_u σC 11 (480 * p + 4 * c + s) (σ 11 (480 * p + 4 * c + s) + 1) 9 (480 * p + i)) = if i = σ 10 p - 1 then 4 * c + s else σ 9 (480 * p + (i + 1))
              by_cases e : i = σ 10 p - 1
              · rw [if_pos e, if_pos e]
              · rw [if_neg e, if_neg e, fD0 9 (by omega)]; exact dSC.2.2.2.1 i (by omega)
            · rw [(q.2 q2 hne hq2).2.1, fD0 10 (by omega)]; exact (dSC.2.2.2.2 q2 hq2 hne).1
            · rw [(q.2 q2 hne hq2).2.2 i hi, fD0 9 (by omega)]; exact (dSC.2.2.2.2 q2 hq2 hne).2 i hi
          have hF := lc_D hE dE2 dF h480
          refine ⟨nI (σ 10 p), ME, M4, CW (ift (by rw [hcb.1]; rfl) (bx (pe_rc kmD) (b2x cb (iff_ ne10 (bx (pe_rc (lc_kla hD np)) (bx fE (bx (pfI wE.1 (wE.2.2.2.2.1.trans (by congr 1; omega))) rfl))))))), MW hM1 (fM (ift (by rw [hcb.1]; rfl) (bx (ls_fR hY 11 (by decide)) (bx a11 (iff_ (nI_ge (b := 2) hcb.2.2 (by omega)) (bx (ls_rc hY) (bx lee (ift rfl (bx (ls_fR hY 11 (by decide)) (bx a11 (bx (a := M2) (by rw [nI_1]; exact f2) (bx (ls_fR h2 9 (by decide)) (bx (ls_fR h2 10 (by decide)) (bx a10 (bx (a := M3) (by rw [ls_ix2]; exact f3) (bx (ls_fR h3 10 (by decide)) (bx a10' (bx (a := M4) (by rw [← ef]; exact f4) (bx (ls_fR h4' 10 (by decide)) (bx a10'' rfl)))))))))))))))))))), ls_callQ h4' hF ?_⟩
          have hGX := ls_G_v hGa hv
          have rs2 : ls_rs (mm_u X 11 (480 * p + 4 * c + s) (σ 11 (480 * p + 4 * c + s) + 1)) (mm_u (mm_u (mm_u Y 11 (480 * p + 4 * c + s) (σ 11 (480 * p + 4 * c + s) + 1)) 9 (480 * p + (σ 10 p - 1)) (4 * c + s)) 10 p (σ 10 p)) p := by
            refine ls_rs_10 (ls_rs_9 ⟨fun f h8 h9 h10 => mm_u_f (rs.1 f h8 h9 h10) _ _ _, fun q hqp hq => ⟨?_, ?_, fun i hi => ?_⟩⟩ (by omega) _) _
            · rw [mm_u, if_neg (by omega), mm_u, if_neg (by omega)]; exact (rs.2 q hqp hq).1
            · rw [mm_u, if_neg (by omega), mm_u, if_neg (by omega)]; exact (rs.2 q hqp hq).2.1
            · rw [mm_u, if_neg (by omega), mm_u, if_neg (by omega)]; exact (rs.2 q hqp hq).2.2 i hi
          have xx3 : X 3 0 = σ 3 0 := by rw [ls_vf hv (f := 3) (by omega) (by omega)]; exact x3
          have xx0 : X 0 = σ 0 := (ls_vf hv (by omega) (by omega)).trans x0
          refine ls_G_row (ls_G_11 hGX hp (c := c) (s := s) (by rw [xx3]; exact hc1) (by rw [xx0]; exact hs1) (by omega)) hp rs2 ?_ (o4X (X := mm_u X 11 (480 * p + 4 * c + s) (σ 11 (480 * p + 4 * c + s) + 1)) (by rw [mm_u, if_neg (by omega)]; exact xx3) (by funext j; rw [mm_u, if_neg (by omega), xx0]) ?_)
          · rw [mm_u, if_neg (by omega), mm_u, if_neg (by omega), mm_u, if_neg (by omega), mm_u, if_neg (by omega)]; exact y8
          · rw [dF.2.2.1]
            refine ls_o4_eq (ls_o4_map o4 (fun i => if i = σ 10 p - 1 then 0 else i + 1) (Nat.le_refl _) (fun i hi => ?_) (fun i hi j hj => ?_)) (fun i hi => ?_)
            · show (if i = σ 10 p - 1 then 0 else i + 1) < _
              split <;> omega
            · show (if i = σ 10 p - 1 then 0 else i + 1) ≠ (if j = σ 10 p - 1 then 0 else j + 1)
              split <;> split <;> omega
            · rw [dF.2.2.2.1 i hi]
              show (if i = σ 10 p - 1 then 4 * c + s else σ 9 (480 * p + (i + 1))) = σ 9 (480 * p + (if i = σ 10 p - 1 then 0 else i + 1))
              by_cases e : i = σ 10 p - 1
              · rw [if_pos e, if_pos e, Nat.add_zero, eq]
              · rw [if_neg e, if_neg e]
        · -- it doesn't
          have hM1 := ls_M_mv hM hC.2.2
          obtain ⟨M1, X, Y, fM, hY, hv, hsc, rs, y8, y10, y9⟩ := ls_ansM hM1 hG hk hp hc1 hs1 ha eq (by omega)
          have dY := YD hv rs y8 y10 y9
          have hF := lc_D hC dSC dY h480
          have a10 : mm_aI M1 (some (ls_ad n 10)) 12 (nI p) = some (nI (σ 10 p - 1)) := by
            have q := ls_aI hY 10 p (by decide) hp
            rw [dY.2.2.1] at q
            exact q
          have end316 : f_X10_answer_316 M1 (some (n + 31)) (nI p) = some (nI (σ 10 p - 1), M1) := bx (ls_fR hY 10 (by decide)) (bx a10 rfl)
          have end148 : f_X9_answer_148 MC (some (n + lc_lo p)) = some (nI (σ 10 p - 1), MC) := bx (pfI (lc_kla hC np) i5C) rfl
          have hGX := ls_G_v hGa hv
          have xx3 : X 3 0 = σ 3 0 := by rw [ls_vf hv (f := 3) (by omega) (by omega)]; exact x3
          have xx0 : X 0 = σ 0 := (ls_vf hv (by omega) (by omega)).trans x0
          refine ⟨nI (σ 10 p - 1), MC, M1, CW ?_, MW hM1 (fM ?_), ls_callQ hY hF (ls_G_row hGX hp rs y8 (o4X xx3 xx0 ?_))⟩
          · by_cases ha0 : a = 0
            · have cb := cl_comesBack aC hv5 i11 (by omega)
              rw [if_neg (fun z => hcb ⟨ha0, z⟩)] at cb
              exact ift (by rw [ha0]; rfl) (bx (pe_rc aC.1) (b2x cb (ift rfl end148)))
            · exact iff_ (nI_ne0 (by omega) (by omega)) end148
          · by_cases ha0 : a = 0
            · have y11 : Y 11 (480 * p + 4 * c + s) = σ 11 (480 * p + 4 * c + s) := by rw [dY.1 11 (by omega) (by omega) (by omega) (by omega), ls_aw_f σ p _ a (by omega)]
              have y33 : Y 33 0 = (ls_aB (σ 4 0) (σ 5 a) a (σ 8 p) (ls_at σ (480 * p + 4 * c + s))).2.2.2.2 := by
                rw [rs.1 33 (by omega) (by omega) (by omega)]
                exact congrArg (fun z : ls_V => z.2.2.2.2) hsc
              have lee := ls_isLeech hY (by rw [y33]; exact hv5)
              have a11 : mm_aI M1 (some (ls_ad n 11)) 12 (nI (480 * p + 4 * c + s)) = some (nI (σ 11 (480 * p + 4 * c + s))) := by rw [← y11]; exact ls_aI hY 11 _ (by decide) ok3
              refine ift (by rw [ha0]; rfl) (bx (ls_fR hY 11 (by decide)) (bx a11 ?_))
              by_cases hg2 : σ 11 (480 * p + 4 * c + s) < 2
              · rw [if_neg (fun z => hcb ⟨ha0, by rw [← y33]; exact z, hg2⟩)] at lee
                exact iff_ (nI_ge (b := 2) hg2 (by omega)) (bx (ls_rc hY) (bx lee (iff_ ne10 end316)))
              · exact ift (nI_le (a := 2) (by omega) (by omega)) end316
            · exact iff_ (nI_ne0 (by omega) (by omega)) end316
          · rw [dY.2.2.1]
            exact ls_o4_eq o4A (fun i hi => dY.2.2.2.1 i hi)
    · exact ⟨-1, M, M, bx (pe_rc (lc_k0 hc)) (bx (lc_learnerAt hc hp) (iff_ (fun q => nomatch q) (bx (cl_isAnswer_out M hy) (ift rfl rfl)))), bx (ls_isPupil_in M hp) (iff_ ne10 (bx (ls_within_out M hy) (ift rfl rfl))), ls_no hM hc hG⟩
  · exact ⟨-1, M, M, bx (pe_rc (lc_k0 hc)) (bx (lc_learnerOut hc hx) (ift rfl rfl)), bx (ls_isPupil_out M hx) (ift rfl rfl), ls_no hM hc hG⟩
end
