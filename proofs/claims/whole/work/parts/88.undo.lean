section
variable {n k : Nat} {σ τ υ : ls_S} {B M M1 : mm_M}
theorem lc_was (h : lc n σ B M) {i : Nat} (hi : i < σ 28 0) : lc_at M (lc_bf n M i) (ls_was σ i) := by
  have k4 := (h.1.2.2.2.2.2.2.2 i hi).2.2.2.1
  have q := (h.2.1.2.2.2.2.2.2.2.2.1 i hi).2
  exact ⟨k4, q 0 (by omega), q 1 (by omega), q 2 (by omega), q 3 (by omega), q 4 (by omega)⟩
/-- an entry taken from the end of the log -/
theorem cl_logDrop (h : lc n σ B M) {i : Nat} (hi : σ 28 0 = i + 1) (hi5 : i ≤ 512) : ∃ M1, f_Jx4a65c_remove_915e3 M (some (n + 11)) (nI i) = some (some (lc_en n M i), M1) ∧ lc n (mm_u σ 28 0 i) B M1 ∧ (∀ p, p < 5 → ∀ c, c < σ 3 0 → ∀ s, s < σ 0 c → lc_mu n M1 p c s = lc_mu n M p c s) ∧ ∀ q x, mm_k M q = some x → x.1 ≠ 0 ∧ x.1 ≠ 17 → mm_k M1 q = some x ∧ (∀ k, mm_I M1 q k = mm_I M q k) ∧ ∀ k, mm_R M1 q k = mm_R M q k := by
  have e28 : ∀ f, f ≠ 28 → mm_u σ 28 0 i f = σ f := fun f hf => by
    funext j
    rw [mm_u, if_neg (fun q => hf q.1)]
  have hlg0 := lg_of h
  have hlg : lg n (mm_u σ 28 0 i) (fun _ => σ 3 0) (σ 3 0) (σ 28 0) B M := lg_σ hlg0 (fun p hp c hc => by rw [e28 0 (by omega)]) (fun p hp c hc s hs k hk => by have := ls_fl_b k hk; rw [e28 _ (by omega)]) (fun c hc => by rw [e28 2 (by omega), e28 1 (by omega)]; exact ⟨rfl, fun _ _ => rfl⟩) (fun j hj f h1 h2 => by rw [e28 f (by omega)]) (fun f hf => e28 f (by omega))
  obtain ⟨zz, kz, hn64, hf⟩ := id hlg.2.1
  have lo : (11 : Nat) ∈ lc_ls := by decide
  have kl := lg_ko hlg lo
  have hL := hlg.2.2.1.2.2.1
  rw [hi] at hL
  have hs := hlg.2.2.2.1.2.2
  rw [hi] at hs
  obtain ⟨M1, f1, g, L1, s1, e1, o1⟩ := cl_remove kl hL hs hi5 kz hf
  have hP : ∀ q, (q = n + 11 ∨ (q = lc_el M (n + 11) ∧ q ≠ mm_z M)) → q = n + 11 ∨ (q = lc_el M (n + 11) ∧ q ≠ mm_z M) := fun q z => z
  have li := fun {o2 k} (ho2 : o2 ∈ lc_ls) (hne : o2 ≠ 11) (hL : lc_L n M (n + o2) k) => lg_li hlg lo g hP ho2 hne hL
  have lne : ∀ q, q < 5 → lc_lo q + 1 ≠ 11 := fun q hq e => by have := lc_lov hq; omega
  have fin : lg n (mm_u σ 28 0 i) (fun _ => σ 3 0) (σ 3 0) i B M1 := lg_step hlg lo g hP ⟨fun q hq => (li (lo_in hq) (lne q hq) (hlg.2.2.1.1 q hq)).1, (li (o2 := 4) (by decide) (by omega) hlg.2.2.1.2.1).1, L1, lg_ds hlg lo g hP (Or.inl e1)⟩ ⟨fun q hq => (li (lo_in hq) (lne q hq) (hlg.2.2.1.1 q hq)).2.2.2.trans (hlg.2.2.2.1.1 q hq), (li (o2 := 4) (by decide) (by omega) hlg.2.2.1.2.1).2.2.2.trans hlg.2.2.2.1.2.1, s1⟩ (fun q hq c _ hc2 => (li (lo_in hq) (lne q hq) (hlg.2.2.1.1 q hq)).2.2.1 c) (fun c _ hc => (li (o2 := 4) (by decide) (by omega) hlg.2.2.1.2.1).2.2.1 c) (fun j hj _ => o1 j hj) (fun q hq c hc hc2 => absurd hc hc2) (fun c hc hc2 => absurd hc hc2) (fun j hj hj2 => absurd hj (by omega)) (fun q hq c hc hc2 => absurd hc hc2)
  have S := fun {q x} (hk : mm_k M q = some x) (h0 : x.1 ≠ 0 ∧ x.1 ≠ 17) => lg_same hlg lo g hP hk h0
  refine ⟨M1, f1, lg_to (by rw [e28 3 (by omega), show mm_u σ 28 0 i 28 0 = i by rw [mm_u, if_pos ⟨rfl, rfl⟩]]; exact fin), fun p hp c hc s hs => ?_, fun q x hx h0 => ⟨(S hx h0).1, (S hx h0).2.1, (S hx h0).2.2.1⟩⟩
  have e1 : lc_hd n M1 p c = lc_hd n M p c := (li (lo_in hp) (lne p hp) (hlg.2.2.1.1 p hp)).2.2.1 c
  obtain ⟨b1, b2, b3, b4, b5, b6⟩ := h.1.2.2.2.1 p hp c hc
  have e2 : lc_ma n M1 p c = lc_ma n M p c := by
    unfold lc_ma
    rw [e1, (S b1 (by decide)).2.2.1]
  unfold lc_mu
  rw [e2, (S b4 n16).2.2.1]
/-- the state behind an answer taken back, the row aside -/
def ls_ub (σ : ls_S) (i : Nat) : ls_S := ls_pt (mm_u σ 28 0 i) (σ 18 i) (ls_was σ i)
theorem ls_ub_f (σ : ls_S) (i : Nat) {f : Nat} (h : f < 13 ∨ 17 < f) (h2 : f ≠ 28) : ls_ub σ i f = σ f := by
  refine (ls_pt_f _ _ _ h).trans ?_
  funext j
  rw [mm_u, if_neg (fun q => h2 q.1)]
theorem ls_G_ub (h : ls_G k σ) {i : Nat} (hi : σ 28 0 = i + 1) : ls_G k (ls_ub σ i) := by
  obtain ⟨h1, h2, h3, h4, h5, h6, h7, h8⟩ := h
  have e := fun {f} (h : f < 13 ∨ 17 < f) (h2 : f ≠ 28) => ls_ub_f σ i h h2
  have e28 : ls_ub σ i 28 0 = i := by
    unfold ls_ub
    rw [ls_pt_f _ _ _ (by omega), mm_u, if_pos ⟨rfl, rfl⟩]
  have eat : ∀ q, ls_at (ls_ub σ i) q = if q = σ 18 i then ls_was σ i else ls_at σ q := fun q => by
    unfold ls_ub
    rw [ls_at_pt]
    rfl
  have epl : ∀ q, ls_pl (ls_ub σ i) q ↔ ls_pl σ q := fun q => by unfold ls_pl; rw [e (f := 3) (by omega) (by omega), e (f := 0) (by omega) (by omega)]
  obtain ⟨w1, w2, w3, w4, w5, w6, w7, w8, w9⟩ := h5.2 i (by omega)
  generalize ls_ub σ i = R at *
  refine ⟨?_, ?_, fun p hp q hq => ?_, fun p hp => ?_, ⟨by rw [e28]; have := h5.1; omega, fun j hj => ?_⟩, ?_, ?_, fun p hp q hq => ⟨?_, fun hn => ?_⟩⟩
  · unfold ls_O1
    rw [e (f := 0) (by omega) (by omega), e (f := 1) (by omega) (by omega), e (f := 2) (by omega) (by omega), e (f := 3) (by omega) (by omega)]
    exact h1
  · unfold ls_O2
    rw [e (f := 4) (by omega) (by omega), e (f := 5) (by omega) (by omega), e (f := 6) (by omega) (by omega), e (f := 7) (by omega) (by omega), e (f := 8) (by omega) (by omega)]
    exact h2
  · rw [eat, e (f := 8) (by omega) (by omega)]
    by_cases e2 : 480 * p + q = σ 18 i
    · rw [if_pos e2]
      have : σ 18 i / 480 = p := by omega
      rw [this] at w7
      exact w7
    · rw [if_neg e2]; exact h3 p hp q hq
  · rw [e (f := 10) (by omega) (by omega), e (f := 9) (by omega) (by omega), e (f := 3) (by omega) (by omega)]
    exact ⟨(h4 p hp).1, fun i hi => (epl _).mpr ((h4 p hp).2.1 i hi), (h4 p hp).2.2⟩
  · rw [e28] at hj
    have ew : ls_was R j = ls_was σ j := by
      unfold ls_was
      rw [e (f := 23) (by omega) (by omega), e (f := 24) (by omega) (by omega), e (f := 25) (by omega) (by omega), e (f := 26) (by omega) (by omega), e (f := 27) (by omega) (by omega)]
    rw [ew, e (f := 18) (by omega) (by omega), e (f := 19) (by omega) (by omega), e (f := 20) (by omega) (by omega), e (f := 21) (by omega) (by omega), e (f := 22) (by omega) (by omega), e (f := 8) (by omega) (by omega)]
    obtain ⟨g1, g2, g3⟩ := h5.2 j (by omega)
    exact ⟨g1, (epl _).mpr g2, g3⟩
  · unfold ls_O6
    rw [e (f := 38) (by omega) (by omega), e (f := 39) (by omega) (by omega), e (f := 40) (by omega) (by omega), e (f := 41) (by omega) (by omega), e (f := 42) (by omega) (by omega), e (f := 43) (by omega) (by omega)]
    exact h6
  · unfold ls_O7
    rw [e (f := 12) (by omega) (by omega), e (f := 11) (by omega) (by omega)]
    exact h7
  · rw [eat]
    by_cases e2 : 480 * p + q = σ 18 i
    · rw [if_pos e2]; exact w8
    · rw [if_neg e2]; exact (h8 p hp q hq).1
  · rw [eat, e (f := 11) (by omega) (by omega), e (f := 12) (by omega) (by omega)]
    have hn2 : ¬ ls_pl σ q := fun z => hn ((epl q).mpr z)
    rw [if_neg (fun e2 => hn2 (by
      have : σ 18 i % 480 = q := by omega
      rw [← this]; exact w2))]
    exact (h8 p hp q hq).2 hn2
theorem ca_undo (hM : ls_M n σ M M) (hc : lc n σ M M) (hG : ls_G k σ) (hk : k ≤ 512) : ls_cc n k M (fun M => f_X9_undo M (some n)) (fun M => f_X10_undo M (some (n + 31))) := by
  have h28 := hG.2.2.2.2.1.1
  have i28 := hc.2.1.2.2.2.1.2.2
  by_cases h0 : σ 28 0 = 0
  · exact ⟨-4, M, M, bx (lc_r0 hc 4 11 (by decide)) (bx (pe_rc (lc_kent hc)) (bx (a := 1) (bx (pfI (lc_kent hc) i28) (ift (by rw [h0]; decide) (gz (s := 1) (Or.inr rfl) rfl))) (iff_ ne10 rfl))), bx (ls_fI hM 28 (by decide)) (ift (show nI (σ 28 0) = 0 by rw [h0]; decide) rfl), ls_no hM hc hG⟩
  · obtain ⟨i, hi⟩ : ∃ i, σ 28 0 = i + 1 := ⟨σ 28 0 - 1, by omega⟩
    have hil : i < σ 28 0 := by omega
    obtain ⟨w1, w2, w3, w4, w5, w6, w7, w8, w9⟩ := hG.2.2.2.2.1.2 i hil
    have O1 := hG.1
    have O4 := hG.2.2.2.1
    have h120 := O1.1
    obtain ⟨p, c, s, hp, hc1, hs1, eq, ep, em⟩ : ∃ p c s, p < 4 ∧ c < σ 3 0 ∧ s < σ 0 c ∧ σ 18 i = 480 * p + 4 * c + s ∧ σ 18 i / 480 = p ∧ σ 18 i % 480 = 4 * c + s := ⟨_, _, _, by omega, w2.1, w2.2, by omega, rfl, by omega⟩
    have h4 := (O1.2.1 c hc1).2
    have np : p < 5 := by omega
    obtain ⟨MA, fA, hA, muA, same⟩ := cl_logDrop hc hi (by omega)
    have kE := (hc.1.2.2.2.2.2.2.2 i hil).1
    have rE := (hc.1.2.2.2.2.2.2.2 i hil).2.2.1
    obtain ⟨⟨e0, e1, -⟩, -⟩ := hc.2.1.2.2.2.2.2.2.2.2.1 i hil
    rw [ep] at e0
    rw [em] at e1
    obtain ⟨kEA, iEA, rEA⟩ := same _ _ kE (by decide)
    have hw := lc_was hc hil
    obtain ⟨kBA, iBA, -⟩ := same _ _ hw.1 (by decide)
    have hwA : lc_at MA (lc_bf n M i) (ls_was σ i) := ⟨kBA, (iBA 0).trans hw.2.1, (iBA 1).trans hw.2.2.1, (iBA 2).trans hw.2.2.2.1, (iBA 3).trans hw.2.2.2.2.1, (iBA 4).trans hw.2.2.2.2.2⟩
    have eA : ∀ f, f ≠ 28 → mm_u σ 28 0 i f = σ f := fun f hf => by
      funext j
      rw [mm_u, if_neg (fun q => hf q.1)]
    have OA : ls_O1 (mm_u σ 28 0 i) := O1
    have mem := lc_memAt hA OA (p := p) (c := c) (s := s) np hc1 hs1
    have muA' := muA p np c hc1 s hs1
    rw [muA'] at mem
    have atA := lc_at_of hA np (c := c) (s := s) hc1 hs1
    rw [muA'] at atA
    have hne : lc_bf n M i ≠ lc_mu n M p c s := (hc.1.2.2.2.2.2.2.2 i hil).2.2.2.2.2 p np c hc1 s hs1
    obtain ⟨MB, fB, dB, aB⟩ := lc_become atA hwA hne
    have hB0 := lc_pt_of hA OA np (c := c) (s := s) hc1 hs1 (by rw [muA']; exact dB) (by rw [muA']; exact aB)
    have hB : lc n (ls_ub σ i) M MB := by
      unfold ls_ub
      rw [eq]
      exact hB0
    have hGu := ls_G_ub hG hi
    have u10 : ls_ub σ i 10 = σ 10 := ls_ub_f σ i (by omega) (by omega)
    have u9 : ls_ub σ i 9 = σ 9 := ls_ub_f σ i (by omega) (by omega)
    have u8 : ls_ub σ i 8 = σ 8 := ls_ub_f σ i (by omega) (by omega)
    have u3 : ls_ub σ i 3 0 = σ 3 0 := by rw [ls_ub_f σ i (f := 3) (by omega) (by omega)]
    have u28 : ls_ub σ i 28 0 = i := by
      unfold ls_ub
      rw [ls_pt_f _ _ _ (by omega), mm_u, if_pos ⟨rfl, rfl⟩]
    have rwB := lc_rw_of hB hp hGu.2.2.2.1 (by rw [u3]; exact h120)
    have rwC := lc_rw_less (m2 := 0) rwB (by omega)
    have hC := lc_sr hB hp hGu.2.2.2.1 (by rw [u3]; exact h120) (lc_dr_s (lc_dr_rf n p MB) (nI 0)) rwC
    have hM1 := ls_M_mv hM hC.2.2
    have i28C := hC.2.1.2.2.2.1.2.2
    rw [show ls_sr (ls_ub σ i) p 0 (fun j => ls_ub σ i 9 (480 * p + j)) 28 0 = i by rw [ls_sr_f _ _ _ _ (by omega) (by omega)]; exact u28] at i28C
    -- the model
    obtain ⟨N1, t1, m1⟩ := ls_pI hM1 28 i (by decide)
    have b18 : mm_aI N1 (some (ls_ad n 18)) 12 (nI i) = some (nI (480 * p + 4 * c + s)) := by
      have q := ls_aI m1 18 i (by decide) (show i < 3000 by omega)
      rw [eA 18 (by omega), eq] at q
      exact q
    have r1 : mm_fI N1 (some (n + 31)) 11 28 = some (nI i) := by
      have q := ls_fI m1 28 (by decide)
      rw [show mm_u σ 28 0 i 28 0 = i by rw [mm_u, if_pos ⟨rfl, rfl⟩]] at q
      exact q
    have b23 : mm_aI N1 (some (ls_ad n 23)) 12 (nI i) = some (nI (σ 23 i)) := by have q := ls_aI m1 23 i (by decide) (show i < 3000 by omega); rw [eA 23 (by omega)] at q; exact q
    obtain ⟨N2, t2, m2⟩ := ls_pI m1 29 (σ 23 i) (by decide)
    have r2 : mm_fI N2 (some (n + 31)) 11 28 = some (nI i) := by
      have q := ls_fI m2 28 (by decide)
      rw [mm_u, if_neg (by omega), mm_u, if_pos ⟨rfl, rfl⟩] at q
      exact q
    have b24 : mm_aI N2 (some (ls_ad n 24)) 12 (nI i) = some (nI (σ 24 i)) := by have q := ls_aI m2 24 i (by decide) (show i < 3000 by omega); rw [mm_u, if_neg (by omega), eA 24 (by omega)] at q; exact q
    obtain ⟨N3, t3, m3⟩ := ls_pI m2 30 (σ 24 i) (by decide)
    have r3 : mm_fI N3 (some (n + 31)) 11 28 = some (nI i) := by
      have q := ls_fI m3 28 (by decide)
      rw [mm_u, if_neg (by omega), mm_u, if_neg (by omega), mm_u, if_pos ⟨rfl, rfl⟩] at q
      exact q
    have b25 : mm_aI N3 (some (ls_ad n 25)) 12 (nI i) = some (nI (σ 25 i)) := by have q := ls_aI m3 25 i (by decide) (show i < 3000 by omega); rw [mm_u, if_neg (by omega), mm_u, if_neg (by omega), eA 25 (by omega)] at q; exact q
    obtain ⟨N4, t4, m4⟩ := ls_pI m3 31 (σ 25 i) (by decide)
    have r4 : mm_fI N4 (some (n + 31)) 11 28 = some (nI i) := by
      have q := ls_fI m4 28 (by decide)
      rw [mm_u, if_neg (by omega), mm_u, if_neg (by omega), mm_u, if_neg (by omega), mm_u, if_pos ⟨rfl, rfl⟩] at q
      exact q
    have b26 : mm_aI N4 (some (ls_ad n 26)) 12 (nI i) = some (ls_en 26 (σ 26 i)) := by have q := ls_aI m4 26 i (by decide) (show i < 3000 by omega); rw [mm_u, if_neg (by omega), mm_u, if_neg (by omega), mm_u, if_neg (by omega), eA 26 (by omega)] at q; exact q
    obtain ⟨N5, t5, m5⟩ := ls_pI m4 32 (σ 26 i) (by decide)
    have r5 : mm_fI N5 (some (n + 31)) 11 28 = some (nI i) := by
      have q := ls_fI m5 28 (by decide)
      rw [mm_u, if_neg (by omega), mm_u, if_neg (by omega), mm_u, if_neg (by omega), mm_u, if_neg (by omega), mm_u, if_pos ⟨rfl, rfl⟩] at q
      exact q
    have b27 : mm_aI N5 (some (ls_ad n 27)) 12 (nI i) = some (nI (σ 27 i)) := by have q := ls_aI m5 27 i (by decide) (show i < 3000 by omega); rw [mm_u, if_neg (by omega), mm_u, if_neg (by omega), mm_u, if_neg (by omega), mm_u, if_neg (by omega), eA 27 (by omega)] at q; exact q
    obtain ⟨N6, t6, m6⟩ := ls_pI m5 33 (σ 27 i) (by decide)
    have vS : ls_v (mm_u σ 28 0 i) (mm_u (mm_u (mm_u (mm_u (mm_u (mm_u σ 28 0 i) 29 0 (σ 23 i)) 30 0 (σ 24 i)) 31 0 (σ 25 i)) 32 0 (σ 26 i)) 33 0 (σ 27 i)) := by
      refine ls_v_u (ls_v_u (ls_v_u (ls_v_u (ls_v_u (ls_v_rf _) ?_) ?_) ?_) ?_) ?_ <;> (unfold ls_nx; omega)
    have cS : ls_sc (mm_u (mm_u (mm_u (mm_u (mm_u (mm_u σ 28 0 i) 29 0 (σ 23 i)) 30 0 (σ 24 i)) 31 0 (σ 25 i)) 32 0 (σ 26 i)) 33 0 (σ 27 i)) = ls_was σ i := rfl
    obtain ⟨N7, t7, m7⟩ := ls_give m6 (q := 480 * p + 4 * c + s) (by omega)
    rw [cS] at m7
    have vX := ls_v_pt vS (480 * p + 4 * c + s) (ls_was σ i)
    generalize mm_u (mm_u (mm_u (mm_u (mm_u (mm_u σ 28 0 i) 29 0 (σ 23 i)) 30 0 (σ 24 i)) 31 0 (σ 25 i)) 32 0 (σ 26 i)) 33 0 (σ 27 i) = S6 at *
    have vX : ls_v (ls_ub σ i) (ls_pt S6 (480 * p + 4 * c + s) (ls_was σ i)) := by unfold ls_ub; rw [eq]; exact vX
    obtain ⟨N8, t8, m8⟩ := ls_tI m7 10 p 0 (by decide) rfl hp
    have rs : ls_rs (ls_pt S6 (480 * p + 4 * c + s) (ls_was σ i)) (mm_u (ls_pt S6 (480 * p + 4 * c + s) (ls_was σ i)) 10 p 0) p := ls_rs_10 (ls_rs_rf _ p) 0
    have x := fun {f} (hf : f < 29) => ls_vf vX (f := f) (by omega) (by omega)
    have r8 : mm_fI N8 (some (n + 31)) 11 28 = some (nI i) := by
      have q := ls_fI m8 28 (by decide)
      rw [mm_u, if_neg (by omega), x (by omega), u28] at q
      exact q
    have dC : ls_D σ (ls_ub σ i) (ls_sr (ls_ub σ i) p 0 (fun j => ls_ub σ i 9 (480 * p + j))) p 0 (fun _ => 0) := by
      have q := ls_sr_rs (ls_ub σ i) (p := p) 0 (fun j => ls_ub σ i 9 (480 * p + j))
      refine ⟨fun f h8 h9 h10 _ => ls_sr_f _ _ _ _ h9 h10, fun q2 hq2 => by rw [ls_sr_f _ _ _ _ (by omega) (by omega), u8], ls_sr_10 _ _ _ _, fun j hj => absurd hj (Nat.not_lt_zero j), fun q2 hq2 hne => ⟨?_, fun j hj => ?_⟩⟩
      · rw [(q.2 q2 hne hq2).2.1, u10]
      · rw [(q.2 q2 hne hq2).2.2 j hj, u9]
    have dY : ls_D σ (ls_ub σ i) (mm_u (ls_pt S6 (480 * p + 4 * c + s) (ls_was σ i)) 10 p 0) p 0 (fun _ => 0) := by
      refine ⟨fun f h8 h9 h10 hf => (rs.1 f h8 h9 h10).trans (ls_vf vX (by omega) (by omega)), fun q2 hq2 => ?_, by rw [mm_u, if_pos ⟨rfl, rfl⟩], fun j hj => absurd hj (Nat.not_lt_zero j), fun q2 hq2 hne => ⟨?_, fun j hj => ?_⟩⟩
      · rw [mm_u, if_neg (by omega), x (by omega), u8]
      · rw [(rs.2 q2 hne hq2).2.1, x (by omega), u10]
      · rw [(rs.2 q2 hne hq2).2.2 j hj, x (by omega), u9]
    have h480 : ∀ q, q < 4 → σ 10 q ≤ 480 := fun q hq => by have := (O4 q hq).1; omega
    have hF := lc_D hC dC dY h480
    refine ⟨nI i, _, N8, bx (lc_r0 hc 4 11 (by decide)) (bx (pe_rc (lc_kent hc)) (bx (a := 0) (bx (pfI (lc_kent hc) i28) (iff_ (nI_ne0 (by omega) (by omega)) (gz (s := 0) (Or.inl rfl) rfl))) (ift rfl (bx (lc_r0 hc 4 11 (by decide)) (bx (lc_r0 hc 4 11 (by decide)) (bx (pe_rc (lc_kent hc)) (bx (lc_esz hc) (bx (pe_rc (lc_kent hc)) (b2x (by rw [hi, nI_pred]; exact fA) (bx (pe_cc kEA) (bx (pfI kEA ((iEA 0).trans e0)) (bx (pe_rc (lc_k0 hA)) (bx (lc_learnerAt hA hp) (iff_ (fun q => nomatch q) (bx (pfI kEA ((iEA 1).trans e1)) (bx (pe_rc (lc_kla hA np)) (bx mem (iff_ (fun q => nomatch q) (bx (pfR kEA ((rEA 6).trans rE)) (bx (pe_rc atA.1) (bx fB (bx (pe_pI 2 _ (lc_kla hB np)) (bx (lc_r0 hC 4 11 (by decide)) (bx (pe_rc (lc_kent hC)) (bx (lc_size (lc_kent hC)) ?_))))))))))))))))))))))))), bx (ls_fI hM1 28 (by decide)) (iff_ (show ¬ nI (σ 28 0) = 0 from nI_ne0 (by omega) (by omega)) (bx (ls_fI hM1 28 (by decide)) (bx (a := N1) (by show mm_pI _ _ 11 28 (nI (σ 28 0) - 1) = _; rw [hi, nI_pred]; exact t1) (bx (ls_fR m1 18 (by decide)) (bx r1 (bx b18 (bx (ls_fR m1 23 (by decide)) (bx r1 (bx b23 (bx t2 (bx (ls_fR m2 24 (by decide)) (bx r2 (bx b24 (bx t3 (bx (ls_fR m3 25 (by decide)) (bx r3 (bx b25 (bx t4 (bx (ls_fR m4 26 (by decide)) (bx r4 (bx b26 (bx t5 (bx (ls_fR m5 27 (by decide)) (bx r5 (bx b27 (bx t6 (bx (ls_rc m6) (bx t7 (bx (ls_fR m7 10 (by decide)) (bx (a := N8) ?_ (bx r8 rfl))))))))))))))))))))))))))))))), ls_fin m8 hF (ls_G_row (ls_G_v hGu vX) hp rs (by rw [mm_u, if_neg (by omega)]) ?_)⟩
    · show some (mm_I _ (n + 11) 2, _) = some (nI i, _)
      exact congrArg (fun z => some (z, mm_sI MB (n + lc_lo p) 2 (nI 0))) i28C
    · rw [show nI (480 * p + 4 * c + s) / 480 = nI p by rw [show nI (480 * p + 4 * c + s) / 480 = nI ((480 * p + 4 * c + s) / 480) from pk_div (d := 480) (by omega) (by omega) (by omega)]; congr 1; omega]
      exact t8
    · rw [mm_u, if_pos ⟨rfl, rfl⟩]
      exact ⟨Nat.zero_le _, fun j hj => absurd hj (Nat.not_lt_zero j), fun j hj => absurd hj (Nat.not_lt_zero j)⟩
end
