section
variable {n k : Nat} {σ τ υ : ls_S} {B M M1 : mm_M} {E P F : Nat → Nat} {C : Nat}
theorem ls_G_ev (h : ls_G k σ) (e : ∀ f, (f < 29 ∨ (37 < f ∧ f < 44)) → τ f = σ f) : ls_G k τ := by
  obtain ⟨h1, h2, h3, h4, h5, h6, h7, h8⟩ := h
  have ep : ∀ q, ls_pl τ q ↔ ls_pl σ q := fun q => by unfold ls_pl; rw [e 3 (by omega), e 0 (by omega)]
  have ea : ∀ q, ls_at τ q = ls_at σ q := fun q => by
    unfold ls_at
    rw [e 13 (by omega), e 14 (by omega), e 15 (by omega), e 16 (by omega), e 17 (by omega)]
  refine ⟨?_, ?_, fun p hp q hq => ?_, fun p hp => ?_, ?_, ?_, ⟨fun q hq => ?_, fun q hq => ?_⟩, fun p hp q hq => ?_⟩
  · unfold ls_O1
    rw [e 0 (by omega), e 1 (by omega), e 2 (by omega), e 3 (by omega)]
    exact h1
  · unfold ls_O2
    rw [e 4 (by omega), e 5 (by omega), e 6 (by omega), e 7 (by omega), e 8 (by omega)]
    exact h2
  · rw [ea, e 8 (by omega)]
    exact h3 p hp q hq
  · rw [e 10 (by omega), e 9 (by omega), e 3 (by omega)]
    exact ⟨(h4 p hp).1, fun i hi => (ep _).mpr ((h4 p hp).2.1 i hi), (h4 p hp).2.2⟩
  · have ew : ∀ i, ls_was τ i = ls_was σ i := fun i => by
      unfold ls_was
      rw [e 23 (by omega), e 24 (by omega), e 25 (by omega), e 26 (by omega), e 27 (by omega)]
    unfold ls_O5
    rw [e 28 (by omega), e 18 (by omega), e 19 (by omega), e 20 (by omega), e 21 (by omega), e 22 (by omega), e 8 (by omega)]
    refine ⟨h5.1, fun i hi => ?_⟩
    rw [ew i]
    have := h5.2 i hi
    exact ⟨this.1, (ep _).mpr this.2.1, this.2.2⟩
  · unfold ls_O6
    rw [e 38 (by omega), e 39 (by omega), e 40 (by omega), e 41 (by omega), e 42 (by omega), e 43 (by omega)]
    exact h6
  · rw [e 12 (by omega)]
    exact h7.1 q hq
  · rw [e 11 (by omega)]
    exact h7.2 q hq
  · rw [ea, e 11 (by omega), e 12 (by omega)]
    exact ⟨(h8 p hp q hq).1, fun z => (h8 p hp q hq).2 (fun y => z ((ep q).mpr y))⟩
/-- the search -/
theorem ls_evSearch (h : ls_M n τ B M) (hE : ∀ q, q < 480 → τ 34 q = E q) (so : ls_so E 480 C P F) {w : Nat} (hw : w ≤ 20) (v1 : Int32) : ∃ L M1 τ1, f_X10_even_163w M (some (n + 31)) v1 (nI w) 0 480 = some (nI L, M1) ∧ ls_M n τ1 B M1 ∧ (∀ f, f ≠ 35 → f ≠ 36 → τ1 f = τ f) ∧ (ls_fit F C w L ∧ ∀ g, g < L → ¬ ls_fit F C w g) ∧ (∀ e, e < 81 → τ1 36 e = ls_np F C L (e + 1) - ls_np F C L e) ∧ ls_evu τ1 E P F C L C := by
  have hC := ls_so_C so
  obtain ⟨y, hy, L, M1, τ1, rfl, a, b, c, d, e⟩ := pe_loop (body := fun x : mm_M × Int32 × Int32 => f_X10_even_163 x.1 (some (n + 31)) v1 (nI w) x.2.1 x.2.2) (x := (M, 0, 480))
    (fun i x => ∃ M1 τ1 lo hi, x = (M1, nI lo, nI hi) ∧ lo ≤ hi ∧ hi ≤ 480 ∧ hi + i ≤ 480 + lo ∧ ls_fit F C w hi ∧ (∀ g, g < lo → ¬ ls_fit F C w g) ∧ ls_M n τ1 B M1 ∧ ∀ f, f ≠ 35 → f ≠ 36 → τ1 f = τ f)
    (fun y => ∃ L M1 τ1, y = (nI L, M1) ∧ ls_M n τ1 B M1 ∧ (∀ f, f ≠ 35 → f ≠ 36 → τ1 f = τ f) ∧ (ls_fit F C w L ∧ ∀ g, g < L → ¬ ls_fit F C w g) ∧ (∀ e, e < 81 → τ1 36 e = ls_np F C L (e + 1) - ls_np F C L e) ∧ ls_evu τ1 E P F C L C) 480 ⟨M, τ, 0, 480, rfl, by omega, by omega, by omega, ls_fit_g hC (ls_fit_C so w), fun g hg => absurd hg (Nat.not_lt_zero g), h, fun _ _ _ => rfl⟩ (by
      rintro i x hi ⟨M1, τ1, lo, hig, rfl, h1, h2, h3, hf, hn, hm, he⟩
      have hE1 : ∀ q, q < 480 → τ1 34 q = E q := fun q hq => by rw [he 34 (by omega) (by omega)]; exact hE q hq
      by_cases hlh : hig ≤ lo
      · have elh : hig = lo := by omega
        subst elh
        obtain ⟨r, M2, τ2, f2, m2, e2, hr⟩ := ls_putAll hm hE1 so hw (g := hig) h2 v1
        rcases hr with ⟨-, q1, q2, q3⟩ | ⟨-, q1⟩
        · exact Or.inr ⟨_, ift (nI_le hlh (by omega)) (mpx (bx (ls_rc hm) (b2x f2 rfl))), hig, M2, τ2, rfl, m2, fun f a b => (e2 f a b).trans (he f a b), ⟨hf, hn⟩, q2, q3⟩
        · exact absurd hf q1
      · have em : (nI lo + nI hig) / 2 = nI ((lo + hig) / 2) := by
          rw [nI_add]
          exact pk_div (d := 2) (by omega) (by omega) (by omega)
        obtain ⟨r, M2, τ2, f2, m2, e2, hr⟩ := ls_putAll hm hE1 so hw (g := (lo + hig) / 2) (by omega) v1
        have pre : ∀ {z}, (if r = 0 then f_X10_even_199 M2 (some (n + 31)) v1 (nI w) (nI hig) (nI ((lo + hig) / 2)) r else f_X10_even_194 M2 (some (n + 31)) v1 (nI w) (nI lo) (nI hig) (nI ((lo + hig) / 2)) r) = z → f_X10_even_163 M1 (some (n + 31)) v1 (nI w) (nI lo) (nI hig) = z := fun q => iff_ (nI_ge (by omega) (by omega)) (bx (ls_rc hm) (b2x (by rw [em]; exact f2) (by rw [em]; exact q)))
        rcases hr with ⟨hr1, q1, -, -⟩ | ⟨hr0, q1⟩
        · refine Or.inl ⟨(M2, nI lo, nI ((lo + hig) / 2)), pre (iff_ (by rw [hr1]; decide) (iff_ (by rw [hr1]; decide) rfl)), ⟨M2, τ2, lo, (lo + hig) / 2, rfl, by omega, by omega, by omega, q1, hn, m2, fun f a b => (e2 f a b).trans (he f a b)⟩, by omega⟩
        · refine Or.inl ⟨(M2, nI ((lo + hig) / 2 + 1), nI hig), pre (ift hr0 (ift hr0 ?_)), ⟨M2, τ2, (lo + hig) / 2 + 1, hig, rfl, by omega, by omega, by omega, hf, fun g hg z => q1 (ls_fit_g (by omega) z), m2, fun f a b => (e2 f a b).trans (he f a b)⟩, by omega⟩
          show some (Sum.inl (M2, nI ((lo + hig) / 2) + 1, nI hig)) = _
          rw [nI_1])
  exact ⟨L, M1, τ1, hy, a, b, c, d, e⟩
theorem ls_evenM (h : ls_M n σ B M) (hG : ls_G k σ) {p w : Nat} (hp : p < 4) (hw : w ≤ 20) (so : ls_so (ls_ev σ p) 480 C P F) : ∃ L M1 τ, f_X10_even_19 M (some (n + 31)) (nI p) (nI w) = some (nI L, M1) ∧ ls_M n τ B M1 ∧ (∀ f, (f < 29 ∨ 37 < f) → f ≠ 45 → τ f = σ f) ∧ τ 37 0 = 1 ∧ (ls_fit F C w L ∧ ∀ g, g < L → ¬ ls_fit F C w g) ∧ (∀ e, e < 81 → τ 36 e = ls_np F C L (e + 1) - ls_np F C L e) ∧ ls_evu τ (ls_ev σ p) P F C L C := by
  have O1 := hG.1
  have h120 := O1.1
  have t5 := hG.2.1.2.2.2.2 p hp
  obtain ⟨y, hy, L, M1, τ, rfl, a, b, c, d, e, f⟩ := pe_cnt (body := fun x : mm_M × Int32 × Int32 => f_X10_even_24 x.1 (some (n + 31)) (nI p) (nI w) x.2.1 x.2.2) (x := (M, 0, 0))
    (fun i x => ∃ M1 τ u, x = (M1, u, nI i) ∧ ls_M n τ B M1 ∧ (∀ f, (f < 29 ∨ 34 < f) → f ≠ 45 → τ f = σ f) ∧ ∀ q, q < i → τ 34 q = ls_ev σ p q)
    (fun y => ∃ L M1 τ, y = (nI L, M1) ∧ ls_M n τ B M1 ∧ (∀ f, (f < 29 ∨ 37 < f) → f ≠ 45 → τ f = σ f) ∧ τ 37 0 = 1 ∧ (ls_fit F C w L ∧ ∀ g, g < L → ¬ ls_fit F C w g) ∧ (∀ e, e < 81 → τ 36 e = ls_np F C L (e + 1) - ls_np F C L e) ∧ ls_evu τ (ls_ev σ p) P F C L C) 480 ⟨M, σ, 0, rfl, h, fun _ _ _ => rfl, fun q hq => absurd hq (Nat.not_lt_zero q)⟩ (by
      rintro q x hq ⟨M1, τ, u, rfl, hm, he, hfirst⟩
      obtain ⟨M2, f2, h2⟩ := ls_tI hm 34 q 0 (by decide) rfl hq
      have e2 : ∀ f, (f < 29 ∨ 34 < f) → f ≠ 45 → mm_u τ 34 q 0 f = σ f := fun f hf h45 => by
        funext j
        rw [mm_u, if_neg (by omega)]
        exact congrFun (he f hf h45) j
      have first2 : ∀ y, y < q → mm_u τ 34 q 0 34 y = ls_ev σ p y := fun y hy => by rw [mm_u, if_neg (by omega)]; exact hfirst y hy
      have z2 : mm_u τ 34 q 0 34 q = 0 := by rw [mm_u, if_pos ⟨rfl, rfl⟩]
      generalize mm_u τ 34 q 0 = τ2 at *
      have e32 : τ2 3 0 = σ 3 0 := by rw [e2 3 (by omega) (by omega)]
      have e02 : τ2 0 = σ 0 := e2 0 (by omega) (by omega)
      have q4 : nI q / 4 = nI (q / 4) := pk_div (d := 4) (by omega) (by omega) (by omega)
      have qr : nI q - nI (q / 4) * 4 = nI (q % 4) := by
        rw [← q4]
        exact pk_rem (d := 4) (by omega) (by omega) (by omega)
      have hn : ∀ (M3 : mm_M) (u : Int32), f_X10_even_144 M3 (some (n + 31)) (nI p) (nI w) u (nI q) = some (.inl (M3, u, nI (q + 1))) := fun M3 u => by
        show some (Sum.inl (M3, u, nI q + 1)) = _
        rw [nI_1]
      have pre : ∀ {x z}, f_X10_isSide M2 (some (n + 31)) (nI (q / 4)) (nI (q % 4)) = some x → (if x = 0 then f_X10_even_144 M2 (some (n + 31)) (nI p) (nI w) u (nI q) else f_X10_even_55 M2 (some (n + 31)) (nI p) (nI w) u (nI q)) = z → f_X10_even_24 M1 (some (n + 31)) (nI p) (nI w) u (nI q) = z := fun {x z} hx hz => iff_ (nI_ge (b := 480) hq (by omega)) (bx (ls_fR hm 34 (by decide)) (bx (a := M2) f2 (bx (ls_rc h2) (bx (a := x) (by rw [q4, qr]; exact hx) hz))))
      have no : ls_ev σ p q = 0 → ∀ {M3 τ3}, ls_v τ2 τ3 → ls_M n τ3 B M3 → ∀ u3 : Int32, ∃ M1 τ u, (M3, u3, nI (q + 1)) = (M1, u, nI (q + 1)) ∧ ls_M n τ B M1 ∧ (∀ f, (f < 29 ∨ 34 < f) → f ≠ 45 → τ f = σ f) ∧ ∀ y, y < q + 1 → τ 34 y = ls_ev σ p y := fun hz M3 τ3 hv hm3 u3 => ⟨M3, τ3, u3, rfl, hm3, fun f hf h45 => (ls_vf hv (by omega) h45).trans (e2 f hf h45), fun y hy => by
        rw [ls_vf hv (f := 34) (by omega) (by omega)]
        by_cases e : y = q
        · rw [e, z2, hz]
        · exact first2 y (by omega)⟩
      by_cases hpl : ls_pl σ q
      · have hc4 := (O1.2.1 _ hpl.1).2
        obtain ⟨M3, τ3, f3, h3, v3, c3⟩ := ls_take h2 (q := 480 * p + q) (by omega)
        have ea : ls_at τ2 (480 * p + q) = ls_at σ (480 * p + q) := by
          unfold ls_at
          rw [e2 13 (by omega) (by omega), e2 14 (by omega) (by omega), e2 15 (by omega) (by omega), e2 16 (by omega) (by omega), e2 17 (by omega) (by omega)]
        rw [ea] at c3
        have ok := hG.2.2.1 p hp q hq
        have hE : ls_ev σ p q = if ls_pl σ q ∧ 0 < (ls_at σ (480 * p + q)).1 ∧ (ls_at σ (480 * p + q)).2.2.2.2 < 8 ∧ ls_fd (ls_at σ (480 * p + q)) (σ 8 p) ≤ σ 8 p + 60 then ls_fd (ls_at σ (480 * p + q)) (σ 8 p) - σ 8 p + 1 else 0 := rfl
        generalize ls_at σ (480 * p + q) = v at *
        obtain ⟨k1, k2, k3, k4, k5, k6, k7⟩ := id ok
        obtain ⟨s29, -, -, -, s33⟩ := ls_sc1 c3
        have e8 : τ3 8 p = σ 8 p := by rw [ls_vf v3 (f := 8) (by omega) (by omega), e2 8 (by omega) (by omega)]
        have pre2 : ∀ {z}, (if nI v.1 = 0 then f_X10_even_81 M3 (some (n + 31)) (nI p) (nI w) u (nI q) else f_X10_even_74 M3 (some (n + 31)) (nI p) (nI w) u (nI q)) = z → f_X10_even_24 M1 (some (n + 31)) (nI p) (nI w) u (nI q) = z := fun {z} hz => pre (ls_isSide_in h2 (by rw [e32]; exact h120) (by rw [e32]; exact hpl.1) (by rw [e02]; exact hpl.2) (by rw [e02]; omega)) (iff_ ne10 (bx (ls_rc h2) (bx (a := M3) (by rw [ls_ix2]; exact f3) (bx (ls_fI h3 29 (by decide)) (by
          show (if nI (τ3 29 0) = 0 then _ else _) = _
          rw [s29]
          exact hz)))))
        have t104n : ∀ s0 : Int32, s0 = -1 → ls_ev σ p q = 0 → ∃ y, f_X10_even_104 M3 (some (n + 31)) (nI p) (nI w) u (nI q) s0 = some (.inl y) ∧ ∃ M1 τ u, y = (M1, u, nI (q + 1)) ∧ ls_M n τ B M1 ∧ (∀ f, (f < 29 ∨ 34 < f) → f ≠ 45 → τ f = σ f) ∧ ∀ y, y < q + 1 → τ 34 y = ls_ev σ p y := fun s0 hs0 hz => by
          obtain ⟨M4, f4, h4⟩ := ls_tI h3 34 q 0 (by decide) rfl hq
          have hneg : ¬ 0 ≤ s0 := by rw [hs0]; decide
          refine ⟨_, bx (ls_fR h3 34 (by decide)) (iff_ hneg (bx (a := M4) f4 (iff_ hneg (hn M4 _)))), M4, _, _, rfl, h4, fun f hf h45 => ?_, fun y hy => ?_⟩
          · funext j
            rw [mm_u, if_neg (by omega), ls_vf v3 (by omega) h45, e2 f hf h45]
          · rw [mm_u]
            by_cases e : y = q
            · rw [if_pos ⟨rfl, e⟩, e, hz]
            · rw [if_neg (fun z => e z.2), ls_vf v3 (by omega) (by omega)]
              exact first2 y (by omega)
        by_cases hs0 : v.1 = 0
        · rw [if_neg (fun z => by have := z.2.1; omega)] at hE
          obtain ⟨y, fy, qy⟩ := t104n (-1) rfl hE
          exact ⟨y, pre2 (ift (by rw [hs0]; decide) fy), qy⟩
        · have lee := ls_isLeech h3 (by omega)
          rw [s33] at lee
          have pre3 : ∀ {z}, (if (if v.2.2.2.2 < 8 then (0 : Int32) else 1) = 0 then f_X10_even_85 M3 (some (n + 31)) (nI p) (nI w) u (nI q) else f_X10_even_81 M3 (some (n + 31)) (nI p) (nI w) u (nI q)) = z → f_X10_even_24 M1 (some (n + 31)) (nI p) (nI w) u (nI q) = z := fun {z} hz => pre2 (iff_ (nI_ne0 (by omega) (by omega)) (bx (ls_rc h3) (bx lee hz)))
          by_cases ha : v.2.2.2.2 < 8
          · have fd := ls_firstDue h3 c3 (t := σ 8 p) (u := σ 8 p + 60) ok (by omega) ha (by omega) (by omega)
            have fb := ls_fd_b ok
            have r8 : mm_aI M3 (some (ls_ad n 8)) 12 (nI p) = some (nI (σ 8 p)) := by rw [← e8]; exact ls_aI h3 8 p (by decide) hp
            have pre4 : ∀ {z}, f_X10_even_104 M3 (some (n + 31)) (nI p) (nI w) u (nI q) (if ls_fd v (σ 8 p) ≤ σ 8 p + 60 then nI (ls_fd v (σ 8 p)) else -1) = z → f_X10_even_24 M1 (some (n + 31)) (nI p) (nI w) u (nI q) = z := fun {z} hz => pre3 (ift (if_pos ha) (bx (ls_fR h3 8 (by decide)) (bx r8 (bx (ls_fR h3 8 (by decide)) (bx r8 (bx (ls_rc h3) (bx (a := if ls_fd v (σ 8 p) ≤ σ 8 p + 60 then nI (ls_fd v (σ 8 p)) else -1) (by show f_X10_firstDue M3 _ (nI (σ 8 p)) (nI (σ 8 p) + nI 60) = _; rw [nI_add]; exact fd) hz)))))))
            by_cases h60 : ls_fd v (σ 8 p) ≤ σ 8 p + 60
            · rw [if_pos ⟨hpl, by omega, ha, h60⟩] at hE
              rw [if_pos h60] at pre4
              obtain ⟨M4, f4, h4⟩ := ls_tI h3 34 q (ls_fd v (σ 8 p) - σ 8 p + 1) (by decide) rfl hq
              have f4' : mm_tI M3 (some (ls_ad n 34)) (nI q) (nI (ls_fd v (σ 8 p)) - nI (σ 8 p)) = some M4 := by
                rw [pk_sub fb.1, ← nI_pred (ls_fd v (σ 8 p) - σ 8 p)]
                exact f4
              have h0 : 0 ≤ nI (ls_fd v (σ 8 p)) := nI_pos' (by omega)
              refine ⟨_, pre4 (bx (ls_fR h3 34 (by decide)) (ift h0 (bx (ls_fR h3 8 (by decide)) (bx r8 (bx (a := M4) f4' (ift h0 (hn M4 _))))))), M4, _, _, rfl, h4, fun f hf h45 => ?_, fun y hy => ?_⟩
              · funext j
                rw [mm_u, if_neg (by omega), ls_vf v3 (by omega) h45, e2 f hf h45]
              · rw [mm_u]
                by_cases e : y = q
                · rw [if_pos ⟨rfl, e⟩, e, hE]
                · rw [if_neg (fun z => e z.2), ls_vf v3 (by omega) (by omega)]
                  exact first2 y (by omega)
            · rw [if_neg (fun z => h60 z.2.2.2)] at hE
              rw [if_neg h60] at pre4
              obtain ⟨y, fy, qy⟩ := t104n (-1) rfl hE
              exact ⟨y, pre4 fy, qy⟩
          · rw [if_neg (fun z => ha z.2.2.1)] at hE
            obtain ⟨y, fy, qy⟩ := t104n (-1) rfl hE
            exact ⟨y, pre3 (iff_ (by rw [if_neg ha]; decide) fy), qy⟩
      · have hE : ls_ev σ p q = 0 := if_neg (fun z => hpl z.1)
        refine ⟨_, pre (ls_isSide_out h2 (by rw [e32]; exact h120) (fun c hc => by rw [e02]; rw [e32] at hc; have := (O1.2.1 c hc).2; omega) ?_) (ift rfl (hn M2 u)), no hE (ls_v_rf τ2) h2 u⟩
        rintro ⟨c, s, hc, hs, ec, es⟩
        rw [e32] at hc
        rw [e02] at hs
        have := (O1.2.1 c hc).2
        have ec2 := (nI_eq (by omega) (by omega)).mp ec
        have es2 := (nI_eq (by omega) (by omega)).mp es
        exact hpl ⟨by omega, by rw [ec2, es2]; exact hs⟩) (by
      rintro x ⟨M1, τ, u, rfl, hm, he, hfirst⟩
      obtain ⟨M2, f2, h2⟩ := ls_pZ hm 37 1 (by decide) (Or.inr rfl)
      have u37 : ∀ f, f ≠ 37 → mm_u τ 37 0 1 f = τ f := fun f hf => by
        funext j
        rw [mm_u, if_neg (fun q => hf q.1)]
      obtain ⟨L, M3, τ3, f3, h3, e3, c3, l3, d3⟩ := ls_evSearch h2 (E := ls_ev σ p) (fun q hq => by rw [u37 34 (by omega)]; exact hfirst q hq) so hw (nI p)
      refine ⟨_, ift (nI_le (a := 480) (Nat.le_refl _) (by omega)) (mpx (bx (a := M2) f2 f3)), L, M3, τ3, rfl, h3, fun f hf h45 => ?_, ?_, c3, l3, d3⟩
      · rw [e3 f (by omega) (by omega), u37 f (by omega), he f (by omega) h45]
      · rw [e3 37 (by omega) (by omega), mm_u, if_pos ⟨rfl, rfl⟩])
  exact ⟨L, M1, τ, hy, a, b, c, d, e, f⟩
theorem ca_even (hM : ls_M n σ M M) (hc : lc n σ M M) (hG : ls_G k σ) (x y : Int32) : ls_cc n k M (fun M => f_X9_even M (some n) x y) (fun M => f_X10_even M (some (n + 31)) x y) := by
  rcases pe_pupil x with ⟨p, hp, rfl⟩ | hx
  · by_cases hy : 0 ≤ y ∧ y ≤ 20
    · obtain ⟨w, hw, rfl⟩ := pe_argle (n := 20) (by omega) hy.1 hy.2
      obtain ⟨MG, MH, C, P, F, fG, eH, ev, so⟩ := cl_gather hc hG hp
      have hdH : lc_di (lc_evp n) M MH := by rw [eH]; exact ev_i ev.1 ⟨by omega, by omega⟩ _ _
      have ew : lc_ew n M MH (ls_ev σ p) P F C := by
        rw [eH]
        exact ⟨ev_i ev.1 (a := n + 12) ⟨by omega, by omega⟩ _ _, by rw [mm_II, if_pos ⟨rfl, rfl⟩]; rfl, by rw [mm_II, if_neg (by omega)]; exact ev.2.2.1, fun j hj => by rw [mm_II, if_neg (by omega)]; exact ev.2.2.2.1 j hj, fun q hq he => by rw [mm_II, if_neg (by omega)]; exact ev.2.2.2.2 q hq he⟩
      obtain ⟨L, M1, f1, ew1, hL, hl, hd⟩ := cl_leastG hc ew so hw
      have hdi := ew1.1
      have hmf : lc_mf n M M1 := fun a h1 h2 => by
        have hn : ¬ lc_evp n a := fun z => by have := z.2; omega
        exact ⟨lc_di_k hdi a, (hdi.2.2.2 a hn).1, lc_di_R hdi a, (hdi.2.2.2 a hn).2⟩
      have hM1 := ls_M_mv hM hmf
      obtain ⟨L2, M2, τ, f2, h2, e2, t37, hL2, hl2, hu2⟩ := ls_evenM hM1 hG hp hw so
      have eL := ls_least_u hL hL2
      subst eL
      have h81 := ls_fit_81 so hw hL.1
      obtain ⟨i1, i2, i3, i4, i5, i6, i7, i8, i9, ia, ib, ic⟩ := id hc.2.1
      have e := fun {f} (hf : f < 29 ∨ 37 < f) (h45 : f ≠ 45) => e2 f hf h45
      have hcl : lc n τ M M1 := by
        refine lc_fr hc hdi (fun a ha => ⟨by have := ha.1; omega, by have := ha.2; omega⟩) ⟨by rw [e (f := 3) (by omega) (by omega)], e (by omega) (by omega), by rw [e (f := 28) (by omega) (by omega)], e (by omega) (by omega), e (by omega) (by omega), fun f a b => e (by omega) (by omega)⟩ ⟨?_, ?_, lc_t3 i3 hdi (by show ¬ (_ ∧ _); omega) (by show ¬ (_ ∧ _); omega), lc_s4 (lc_t4 i4 hdi (fun p hp => by have := lc_lov hp; show ¬ (_ ∧ _); omega) (by show ¬ (_ ∧ _); omega) (by show ¬ (_ ∧ _); omega)) (by rw [e (f := 3) (by omega) (by omega)]) (by rw [e (f := 28) (by omega) (by omega)]), ?_, lc_s6 (lc_t6 i6 hdi (fun p hp => by have := lc_lov (show p < 5 by omega); show ¬ (_ ∧ _); omega)) (e (by omega) (by omega)) (e (by omega) (by omega)), ⟨Or.inr t37, by rw [t37]; exact ew1.2.1, fun _ => ⟨fun d hd81 => ?_, fun q hq => ?_⟩⟩, ?_, ?_⟩
        · unfold lc_I1
          rw [e (f := 4) (by omega) (by omega), e (f := 6) (by omega) (by omega), e (f := 7) (by omega) (by omega)]
          exact lc_t1 i1 hdi (by show ¬ (_ ∧ _); omega)
        · unfold lc_I2
          rw [e (f := 5) (by omega) (by omega)]
          exact lc_t2 i2 hdi (by show ¬ (_ ∧ _); omega)
        · unfold lc_I5
          rw [e (f := 8) (by omega) (by omega), e (f := 10) (by omega) (by omega)]
          exact lc_t5 i5 hdi (fun p hp => by have := lc_lov (show p < 5 by omega); show ¬ (_ ∧ _); omega)
        · rw [hl2 d hd81]; exact hl d hd81
        · rcases Nat.eq_zero_or_pos (ls_ev σ p q) with h0 | h0
          · rw [hu2.2.2 q hq h0, ew1.2.2.2.2 q hq h0]
            decide
          · obtain ⟨j, hj, rfl⟩ := so.2.2 q hq h0
            obtain ⟨d, hd2, y1, y2⟩ := ls_np_d so L j 81 (by omega)
            rw [hd d j y1 y2 hj, hu2.1 d j y1 y2 hj]
            exact (nI_pred d).symm
        · unfold lc_Ib
          rw [e (f := 39) (by omega) (by omega), e (f := 40) (by omega) (by omega), e (f := 41) (by omega) (by omega), e (f := 42) (by omega) (by omega), e (f := 43) (by omega) (by omega)]
          exact lc_tb ib hdi (by show ¬ (_ ∧ _); omega)
        · unfold lc_Ic
          rw [e (f := 38) (by omega) (by omega), e (f := 39) (by omega) (by omega)]
          exact lc_tc ic hdi (by show ¬ (_ ∧ _); omega)
      have k0 : mm_k MH n = some (10, 0) := (lc_di_k hdH n).trans (lc_k0 hc)
      have r5 : mm_R MH n 5 = some (n + 12) := (lc_di_R hdH n 5).trans (lc_r hc (0, 5, 12) (by decide))
      exact ⟨nI L, M1, M2, bx (pe_rc (lc_k0 hc)) (bx (lc_learnerAt hc hp) (iff_ (fun q => nomatch q) (iff_ (Int32.not_lt.mpr hy.1) (ift hy.2 (bx (lc_r0 hc 5 12 (by decide)) (bx (lc_r0 hc 0 1 (by decide)) (bx (pe_rc (lc_kev hc)) (bx fG (bx (pfR k0 r5) (bx (pe_rc (ev_k hc hdH (12, 5, 0) (by decide))) (b2x f1 rfl))))))))))), bx (ls_isPupil_in M1 hp) (iff_ ne10 (bx (ls_within_in M1 hy) (iff_ ne10 f2))), ls_fin h2 hcl (ls_G_ev hG (fun f hf => e (by omega) (by omega)))⟩
    · refine ⟨-1, M, M, bx (pe_rc (lc_k0 hc)) (bx (lc_learnerAt hc hp) (iff_ (fun q => nomatch q) ?_)), bx (ls_isPupil_in M hp) (iff_ ne10 (bx (ls_within_out M hy) (ift rfl rfl))), ls_no hM hc hG⟩
      by_cases h1 : y < 0
      · exact ift h1 rfl
      · exact iff_ h1 (iff_ (fun q => hy ⟨Int32.not_lt.mp h1, q⟩) rfl)
  · exact ⟨-1, M, M, bx (pe_rc (lc_k0 hc)) (bx (lc_learnerOut hc hx) (ift rfl rfl)), bx (ls_isPupil_out M hx) (ift rfl rfl), ls_no hM hc hG⟩
end
