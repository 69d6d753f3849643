section
variable {n d l o k : Nat} {σ τ : ls_S} {κ κ1 : Nat → Nat} {B M M1 : mm_M} {P : Nat → Prop}
/-- a new memory's numbers -/
def lc_n7 (k : Nat) : Int32 := if k = 1 then 2500 else if k = 3 then -1 else 0
/-- a new hand, so far -/
def lc_nh (M M1 : mm_M) (s i : Nat) : Prop := lc_gw (fun _ => False) M M1 ∧ mm_n M1 = mm_n M + 2 + i ∧ mm_k M1 (mm_n M) = some (6, 0) ∧ mm_R M1 (mm_n M) 0 = some (mm_n M + 1) ∧ mm_k M1 (mm_n M + 1) = some (16, s) ∧ ∀ j, j < i → mm_R M1 (mm_n M + 1) j = some (mm_n M + 2 + j) ∧ mm_k M1 (mm_n M + 2 + j) = some (9, 0) ∧ ∀ k, mm_I M1 (mm_n M + 2 + j) k = lc_n7 k
theorem cl_newHand (hf : ∀ q, mm_n M ≤ q → mm_k M q = none) {s : Nat} (h1 : 1 ≤ s) (h4 : s ≤ 4) : ∃ M1, f_X5_init (mm_nw M (6, 0)) (mm_n M) (nI s) = some M1 ∧ lc_nh M M1 s s := by
  have g0 : lc_gw (fun _ => False) M (mm_sR (mm_nw (mm_nw M (6, 0)) (16, s)) (mm_n M) 0 (some (mm_n M + 1))) := gw_R (gw_nw (gw_nw (gw_rf hf) _) _) (Or.inr (Nat.le_refl _)) _ _
  have k4 : mm_k (mm_nw M (6, 0)) (mm_n M) = some (6, 0) := by rw [mm_kw, if_pos rfl]
  have k6 : mm_k (mm_nw (mm_nw M (6, 0)) (16, s)) (mm_n M) = some (6, 0) := by rw [mm_kw, if_neg (by rw [mm_nW]; omega)]; exact k4
  have nh0 : lc_nh M (mm_sR (mm_nw (mm_nw M (6, 0)) (16, s)) (mm_n M) 0 (some (mm_n M + 1))) s 0 := ⟨g0, rfl, k6, by rw [mm_RR, if_pos ⟨rfl, rfl⟩], by rw [mm_kR, mm_kw]; exact if_pos rfl, fun j hj => absurd hj (Nat.not_lt_zero j)⟩
  obtain ⟨M1, hM1, hQ⟩ := pe_cnt (body := fun x : Nat × mm_M × Int32 => f_X5_init_23 x.2.1 x.1 (mm_n M) x.2.2) (x := (0, mm_sR (mm_nw (mm_nw M (6, 0)) (16, s)) (mm_n M) 0 (some (mm_n M + 1)), 0))
    (fun i x => ∃ M1, x = (i, M1, nI i) ∧ lc_nh M M1 s i) (fun M1 => lc_nh M M1 s s) s ⟨_, rfl, nh0⟩ (by
      rintro i x hi ⟨M1, rfl, g, hn, a1, a2, a3, a4⟩
      have kb : mm_k (mm_nw M1 (9, 0)) (mm_n M1) = some (9, 0) := by rw [mm_kw, if_pos rfl]
      have ka : mm_k (mm_nw M1 (9, 0)) (mm_n M + 1) = some (16, s) := by rw [mm_kw, if_neg (by omega)]; exact a3
      refine ⟨(i + 1, mm_sR (mm_sI (mm_sI (mm_nw M1 (9, 0)) (mm_n M1) 1 2500) (mm_n M1) 3 (-1)) (mm_n M + 1) i (some (mm_n M1)), nI (i + 1)), bx (pfR a1 a2) (bx (pe_ln a3 (by omega)) (iff_ (nI_ge hi (by omega)) (bx (pfR a1 a2) (gdx (show i < 4 by omega) (bx (a := mm_sI (mm_sI (mm_nw M1 (9, 0)) (mm_n M1) 1 2500) (mm_n M1) 3 (-1)) (bx (pe_pI 1 _ kb) (bx (pe_pI 3 _ (show mm_k (mm_sI (mm_nw M1 (9, 0)) (mm_n M1) 1 2500) (mm_n M1) = some (9, 0) from kb)) rfl)) (bx (pe_tR (show mm_k (mm_sI (mm_sI (mm_nw M1 (9, 0)) (mm_n M1) 1 2500) (mm_n M1) 3 (-1)) (mm_n M + 1) = some (16, s) from ka) (show mm_k (mm_sI (mm_sI (mm_nw M1 (9, 0)) (mm_n M1) 1 2500) (mm_n M1) 3 (-1)) (mm_n M1) = some (9, 0) from kb) (by decide) hi (by omega)) ?_)))))), _, rfl, gw_R (gw_I (gw_I (gw_nw g _) (Or.inr (by omega)) _ _) (Or.inr (by omega)) _ _) (Or.inr (by omega)) _ _, ?_, ?_, ?_, ka, fun j hj => ?_⟩
      · show some (Sum.inl (i + 1, _, nI i + 1)) = _
        rw [nI_1]
      · show mm_n M1 + 1 = _
        omega
      · show mm_k (mm_nw M1 (9, 0)) (mm_n M) = _
        rw [mm_kw, if_neg (by omega)]; exact a1
      · rw [mm_RR, if_neg (by omega)]
        show mm_R (mm_nw M1 (9, 0)) (mm_n M) 0 = _
        rw [mm_Rw, if_neg (by omega)]; exact a2
      · have kk : mm_k (mm_sR (mm_sI (mm_sI (mm_nw M1 (9, 0)) (mm_n M1) 1 2500) (mm_n M1) 3 (-1)) (mm_n M + 1) i (some (mm_n M1))) (mm_n M + 2 + j) = mm_k (mm_nw M1 (9, 0)) (mm_n M + 2 + j) := rfl
        rw [kk, mm_RR]
        by_cases e : j = i
        · subst e
          rw [if_pos ⟨rfl, rfl⟩, ← hn]
          refine ⟨rfl, kb, fun k => ?_⟩
          rw [mm_IR, mm_II]
          unfold lc_n7
          by_cases e3 : k = 3
          · rw [if_pos ⟨rfl, e3⟩, if_neg (by omega), if_pos e3]
          · rw [if_neg (fun q => e3 q.2), mm_II]
            by_cases e1 : k = 1
            · rw [if_pos ⟨rfl, e1⟩, if_pos e1]
            · rw [if_neg (fun q => e1 q.2), if_neg e1, if_neg e3, mm_Iw, if_pos rfl]
        · obtain ⟨b1, b2, b3⟩ := a4 j (by omega)
          rw [if_neg (fun q => e q.2), mm_kw, if_neg (by omega)]
          refine ⟨?_, b2, fun k => ?_⟩
          · show mm_R (mm_nw M1 (9, 0)) (mm_n M + 1) j = _
            rw [mm_Rw, if_neg (by omega)]; exact b1
          · rw [mm_IR, mm_II, if_neg (by omega), mm_II, if_neg (by omega), mm_Iw, if_neg (by omega)]; exact b3 k) (by
      rintro x ⟨M1, rfl, hh⟩
      obtain ⟨g, hn, a1, a2, a3, a4⟩ := id hh
      exact ⟨M1, bx (pfR a1 a2) (bx (pe_ln a3 (by omega)) (ift (nI_le (Nat.le_refl _) (by omega)) (gdx (show s ≤ 4 by omega) (mpx rfl)))), hh⟩)
  refine ⟨M1, ift (nI_le (a := 1) h1 (by omega)) (bx (a := mm_nw (mm_nw M (6, 0)) (16, s)) (pe_na h4 (by omega)) (bx (pe_pR 0 _ k6) hM1)), hQ⟩
/-- the lists stay apart -/
theorem lg_ds (h : lg n σ κ d l B M) (ho : o ∈ lc_ls) (g : lc_gw P M M1) (hP : ∀ q, P q → q = n + o ∨ (q = lc_el M (n + o) ∧ q ≠ mm_z M)) (he : lc_el M1 (n + o) = lc_el M (n + o) ∨ mm_n M ≤ lc_el M1 (n + o)) : ∀ a, a ∈ lc_ls → ∀ b, b ∈ lc_ls → lc_el M1 (n + a) = lc_el M1 (n + b) → a = b ∨ lc_el M1 (n + a) = mm_z M1 := by
  have old : ∀ a, a ∈ lc_ls → lc_el M (n + a) < mm_n M ∧ (a ≠ o → lc_el M1 (n + a) = lc_el M (n + a)) := fun a ha => by
    obtain ⟨k, hL⟩ := lg_Lo h ha
    refine ⟨?_, fun hne => (lg_li h ho g hP ha hne hL).2.1⟩
    rcases hL with ⟨-, hr⟩ | ⟨cap, c1, c2, c3, c4, c5, c6, c7, c8⟩
    · rw [show lc_el M (n + a) = mm_z M by unfold lc_el; rw [hr]; rfl]
      exact gw_lt h.2.1.2.2.2 h.2.1.2.1
    · exact gw_lt h.2.1.2.2.2 c6
  intro a ha b hb e
  rw [g.2.1]
  have hd := h.2.2.1.2.2.2
  by_cases ea : a = o
  · by_cases eb : b = o
    · exact Or.inl (ea.trans eb.symm)
    · subst ea
      rw [(old b hb).2 eb] at e
      rcases he with he | he
      · rw [he] at e ⊢
        exact hd a ha b hb e
      · have := (old b hb).1
        omega
  · rw [(old a ha).2 ea] at e ⊢
    by_cases eb : b = o
    · subst eb
      rcases he with he | he
      · rw [he] at e
        exact hd a ha b hb e
      · have := (old a ha).1
        omega
    · rw [(old b hb).2 eb] at e
      exact hd a ha b hb e
theorem lo_in {p : Nat} (hp : p < 5) : lc_lo p + 1 ∈ lc_ls := by
  have q : ∀ p, p < 5 → lc_lo p + 1 ∈ lc_ls := by decide
  exact q p hp
theorem cl_addCard (h : lg n σ κ d l B M) {p s : Nat} (hp : p < 5) (h1 : 1 ≤ s) (h4 : s ≤ 4) (hκ : κ p ≤ 119) (e0 : σ 0 (κ p) = s) (edef : ∀ j, j < s → ∀ k, k < 7 → ls_en (lc_fl k) (σ (lc_fl k) (480 * p + 4 * κ p + j)) = lc_n7 k) (hk1 : κ1 p = κ p + 1) (hk2 : ∀ q, q < 5 → q ≠ p → κ1 q = κ q) : ∃ M1, f_X6_addCard M (some (n + lc_lo p)) (nI s) = some M1 ∧ lg n σ κ1 d l B M1 := by
  obtain ⟨zz, kz, hn64, hf⟩ := id h.2.1
  obtain ⟨M9, f9, g9, n9, a1, a2, a3, a4⟩ := cl_newHand hf h1 h4
  have lo := lo_in hp
  have lo4 : lc_lo p + 1 ≠ 4 := by have := lc_lov hp; omega
  have lo11 : lc_lo p + 1 ≠ 11 := by have := lc_lov hp; omega
  have kl := lg_ko h lo
  have lt := gw_lt hf kl
  have hL := h.2.2.1.1 p hp
  obtain ⟨L9, el9, it9, s9⟩ := lg_li h (o := 4) (by decide) g9 (fun q z => z.elim) lo lo4 hL
  have kla : mm_k M (n + lc_lo p) = some (7, 0) := by
    have q : ∀ p, p < 5 → (lc_lo p, 7, 0) ∈ lc_kt := by decide
    exact h.1.1 _ (q p hp)
  have rla : mm_R M (n + lc_lo p) 0 = some (n + (lc_lo p + 1)) := by
    have q : ∀ p, p < 5 → (lc_lo p, 0, lc_lo p + 1) ∈ lc_rt := by decide
    exact h.1.2 _ (q p hp)
  have kl9 : mm_k M9 (n + (lc_lo p + 1)) = some (0, 0) := (g9.2.2.1 _ lt).trans kl
  obtain ⟨M1, f1, g1, L1, s1, e1, t1, o1⟩ := cl_add (M := M9) kl9 L9 (s9.trans (h.2.2.2.1.1 p hp)) (by omega) a1 (by decide) (by rw [g9.2.1, g9.2.2.1 _ (gw_lt hf kz)]; exact kz) (by have := g9.1; omega) g9.2.2.2.1 (fun i hi => ⟨6, by decide, by
    rw [it9]
    have q := ((h.2.2.2.2.1 p hp i hi).1).1
    exact (g9.2.2.1 _ (gw_lt hf q)).trans q⟩)
  have hel : lc_el M (n + (lc_lo p + 1)) < mm_n M := by
    rcases hL with ⟨-, hr⟩ | ⟨cap, c1, c2, c3, c4, c5, c6, c7, c8⟩
    · rw [show lc_el M (n + (lc_lo p + 1)) = mm_z M by unfold lc_el; rw [hr]; rfl]
      exact gw_lt hf kz
    · exact gw_lt hf c6
  have g : lc_gw (fun q => q = n + (lc_lo p + 1) ∨ (q = lc_el M (n + (lc_lo p + 1)) ∧ q ≠ mm_z M)) M M1 := gw_tr (gw_w g9 (fun q z => z.elim)) g1 (fun q hq z => by rw [el9, g9.2.1] at z; exact z)
  have hP : ∀ q, (q = n + (lc_lo p + 1) ∨ (q = lc_el M (n + (lc_lo p + 1)) ∧ q ≠ mm_z M)) → q = n + (lc_lo p + 1) ∨ (q = lc_el M (n + (lc_lo p + 1)) ∧ q ≠ mm_z M) := fun q z => z
  have li := fun {o2 k} (ho2 : o2 ∈ lc_ls) (hne : o2 ≠ lc_lo p + 1) (hL : lc_L n M (n + o2) k) => lg_li h lo g hP ho2 hne hL
  have lne : ∀ q, q < 5 → q ≠ p → lc_lo q + 1 ≠ lc_lo p + 1 := fun q hq hne e => by have := lc_lov hp; have := lc_lov hq; omega
  have ehd : lc_hd n M1 p (κ p) = mm_n M := t1
  -- the new cells in M1
  have new : ∀ q, mm_n M ≤ q → q < mm_n M9 → mm_k M1 q = mm_k M9 q ∧ (∀ k, mm_I M1 q k = mm_I M9 q k) ∧ ∀ k, mm_R M1 q k = mm_R M9 q k := fun q hq hq2 => by
    have z := g1.2.2.2.2 q hq2 (fun z => by rw [el9] at z; rcases z with z | z <;> omega)
    exact ⟨g1.2.2.1 q hq2, z.1, z.2.1⟩
  have ema : lc_ma n M1 p (κ p) = mm_n M + 1 := by
    unfold lc_ma
    rw [ehd, (new _ (Nat.le_refl _) (by omega)).2.2, a2]; rfl
  have emu : ∀ j, j < s → lc_mu n M1 p (κ p) j = mm_n M + 2 + j := fun j hj => by
    unfold lc_mu
    rw [ema, (new _ (by omega) (by omega)).2.2, (a4 j hj).1]; rfl
  have hcs : ∀ q, q < 5 → ∀ c, c < κ1 q → ¬ c < κ q → q = p ∧ c = κ p := fun q hq c hc hc2 => by
    by_cases e : q = p
    · subst e
      exact ⟨rfl, by omega⟩
    · rw [hk2 q hq e] at hc
      exact absurd hc hc2
  refine ⟨M1, bx (pfR kla rla) (bx f9 (bx (pe_rc kl9) (b2x f1 rfl))), lg_step h lo g hP ⟨fun q hq => ?_, (li (o2 := 4) (by decide) (by omega) h.2.2.1.2.1).1, (li (o2 := 11) (by decide) (by omega) h.2.2.1.2.2.1).1, lg_ds h lo g hP ?_⟩ ⟨fun q hq => ?_, (li (o2 := 4) (by decide) (by omega) h.2.2.1.2.1).2.2.2.trans h.2.2.2.1.2.1, (li (o2 := 11) (by decide) (by omega) h.2.2.1.2.2.1).2.2.2.trans h.2.2.2.1.2.2⟩ (fun q hq c hc hc2 => ?_) (fun c _ hc => (li (o2 := 4) (by decide) (by omega) h.2.2.1.2.1).2.2.1 c) (fun i _ hi => (li (o2 := 11) (by decide) (by omega) h.2.2.1.2.2.1).2.2.1 i) (fun q hq c hc hc2 => ?_) (fun c hc hc2 => absurd hc hc2) (fun i hi hi2 => absurd hi hi2) (fun _ _ _ _ _ i hi => hi)⟩
  · by_cases e : q = p
    · rw [e, hk1]; exact L1
    · rw [hk2 q hq e]; exact (li (lo_in hq) (lne q hq e) (h.2.2.1.1 q hq)).1
  · rcases e1 with ⟨e, -⟩ | e
    · exact Or.inl (e.trans el9)
    · exact Or.inr (by have := g9.1; omega)
  · by_cases e : q = p
    · rw [e, hk1]; exact s1
    · rw [hk2 q hq e]; exact (li (lo_in hq) (lne q hq e) (h.2.2.1.1 q hq)).2.2.2.trans (h.2.2.2.1.1 q hq)
  · by_cases e : q = p
    · subst e
      exact (o1 c hc2).trans (it9 c)
    · exact (li (lo_in hq) (lne q hq e) (h.2.2.1.1 q hq)).2.2.1 c
  · obtain ⟨rfl, rfl⟩ := hcs q hq c hc hc2
    refine ⟨?_, ?_, fun j hj => ?_, fun j hj j2 hj2 e => ?_, fun q2 hq2 c2 hc3 hc4 => ?_⟩
    · unfold lg_h
      rw [ehd, ema, e0]
      refine ⟨((new _ (Nat.le_refl _) (by omega)).1).trans a1, by omega, ((new _ (Nat.le_refl _) (by omega)).2.2 0).trans a2, ((new _ (by omega) (by omega)).1).trans a3, by omega, fun j hj => ?_⟩
      rw [emu j hj]
      exact ⟨((new _ (by omega) (by omega)).2.2 j).trans (a4 j hj).1, ((new _ (by omega) (by omega)).1).trans (a4 j hj).2.1, by omega⟩
    · unfold lg_hI
      rw [e0]
      intro j hj k hk
      rw [emu j hj, (new _ (by omega) (by omega)).2.1, (a4 j hj).2.2 k]
      exact (edef j hj k hk).symm
    · rw [emu j (by omega)]; omega
    · rw [emu j (by omega), emu j2 (by omega)] at e; omega
    · obtain ⟨rfl, rfl⟩ := hcs q2 hq2 c2 hc3 hc4
      exact ⟨rfl, rfl⟩
theorem cl_deckAdd (h : lg n σ κ d l B M) (hd : d ≤ 119) (e2 : σ 2 d = 0) : ∃ M1, f_X2_addCard M (some (n + 3)) = some (nI d, M1) ∧ lg n σ κ (d + 1) l B M1 := by
  obtain ⟨zz, kz, hn64, hf⟩ := id h.2.1
  have lo : (4 : Nat) ∈ lc_ls := by decide
  have kl := lg_ko h lo
  have lt := gw_lt hf kl
  have hL := h.2.2.1.2.1
  have kd : mm_k M (n + 3) = some (3, 0) := h.1.1 (3, 3, 0) (by decide)
  have rd : mm_R M (n + 3) 0 = some (n + 4) := h.1.2 (3, 0, 4) (by decide)
  have ltd := gw_lt hf kd
  have g9 : lc_gw (fun _ => False) M (mm_sR (mm_nw (mm_nw M (1, 0)) (12, 4)) (mm_n M) 0 (some (mm_n M + 1))) := gw_R (gw_nw (gw_nw (gw_rf hf) _) _) (Or.inr (Nat.le_refl _)) _ _
  have n9 : mm_n (mm_sR (mm_nw (mm_nw M (1, 0)) (12, 4)) (mm_n M) 0 (some (mm_n M + 1))) = mm_n M + 2 := rfl
  have k6 : mm_k (mm_nw (mm_nw M (1, 0)) (12, 4)) (mm_n M) = some (1, 0) := by rw [mm_kw, if_neg (by rw [mm_nW]; omega), mm_kw, if_pos rfl]
  have a1 : mm_k (mm_sR (mm_nw (mm_nw M (1, 0)) (12, 4)) (mm_n M) 0 (some (mm_n M + 1))) (mm_n M) = some (1, 0) := k6
  have a2 : mm_R (mm_sR (mm_nw (mm_nw M (1, 0)) (12, 4)) (mm_n M) 0 (some (mm_n M + 1))) (mm_n M) 0 = some (mm_n M + 1) := by rw [mm_RR, if_pos ⟨rfl, rfl⟩]
  have a3 : mm_k (mm_sR (mm_nw (mm_nw M (1, 0)) (12, 4)) (mm_n M) 0 (some (mm_n M + 1))) (mm_n M + 1) = some (12, 4) := by rw [mm_kR, mm_kw]; exact if_pos rfl
  have a4 : mm_I (mm_sR (mm_nw (mm_nw M (1, 0)) (12, 4)) (mm_n M) 0 (some (mm_n M + 1))) (mm_n M) 1 = 0 := by rw [mm_IR, mm_Iw, if_neg (by rw [mm_nW]; omega), mm_Iw, if_pos rfl]
  have f9 : f_X0_init (mm_nw M (1, 0)) (mm_n M) = some (mm_sR (mm_nw (mm_nw M (1, 0)) (12, 4)) (mm_n M) 0 (some (mm_n M + 1))) := by
    show (mm_na (mm_nw M (1, 0)) 12 (nI 4) 4).bind (fun M6 => (mm_pR M6 (some (mm_n M)) 1 0 (some (mm_n (mm_nw M (1, 0))))).bind fun M8 => some M8) = _
    rw [pe_na (i := 4) (lim := 4) (by omega) (by omega)]
    exact bx rfl (bx (pe_pR 0 _ k6) rfl)
  have f0 := f9
  generalize mm_sR (mm_nw (mm_nw M (1, 0)) (12, 4)) (mm_n M) 0 (some (mm_n M + 1)) = M9 at *
  obtain ⟨L9, el9, it9, s9⟩ := lg_li h (o := 11) (by decide) g9 (fun q z => z.elim) lo (by decide) hL
  have kl9 : mm_k M9 (n + 4) = some (0, 0) := (g9.2.2.1 _ lt).trans kl
  obtain ⟨M1, f1, g1, L1, s1, e1, t1, o1⟩ := cl_add (M := M9) kl9 L9 (s9.trans h.2.2.2.1.2.1) (by omega) a1 (by decide) (by rw [g9.2.1, g9.2.2.1 _ (gw_lt hf kz)]; exact kz) (by have := g9.1; omega) g9.2.2.2.1 (fun i hi => ⟨1, by decide, by
    rw [it9]
    have q := ((h.2.2.2.2.2.2.1 i hi).1).1
    exact (g9.2.2.1 _ (gw_lt hf q)).trans q⟩)
  have hel : lc_el M (n + 4) < mm_n M := by
    rcases hL with ⟨-, hr⟩ | ⟨cap, c1, c2, c3, c4, c5, c6, c7, c8⟩
    · rw [show lc_el M (n + 4) = mm_z M by unfold lc_el; rw [hr]; rfl]
      exact gw_lt hf kz
    · exact gw_lt hf c6
  have g : lc_gw (fun q => q = n + 4 ∨ (q = lc_el M (n + 4) ∧ q ≠ mm_z M)) M M1 := gw_tr (gw_w g9 (fun q z => z.elim)) g1 (fun q hq z => by rw [el9, g9.2.1] at z; exact z)
  have hP : ∀ q, (q = n + 4 ∨ (q = lc_el M (n + 4) ∧ q ≠ mm_z M)) → q = n + 4 ∨ (q = lc_el M (n + 4) ∧ q ≠ mm_z M) := fun q z => z
  have li := fun {o2 k} (ho2 : o2 ∈ lc_ls) (hne : o2 ≠ 4) (hL : lc_L n M (n + o2) k) => lg_li h lo g hP ho2 hne hL
  have lne : ∀ q, q < 5 → lc_lo q + 1 ≠ 4 := fun q hq e => by have := lc_lov hq; omega
  have ekd : lc_kd n M1 d = mm_n M := t1
  have new : ∀ q, mm_n M ≤ q → q < mm_n M9 → mm_k M1 q = mm_k M9 q ∧ (∀ k, mm_I M1 q k = mm_I M9 q k) ∧ ∀ k, mm_R M1 q k = mm_R M9 q k := fun q hq hq2 => by
    have z := g1.2.2.2.2 q hq2 (fun z => by rw [el9] at z; rcases z with z | z <;> omega)
    exact ⟨g1.2.2.1 q hq2, z.1, z.2.1⟩
  have ekl : lc_kl n M1 d = mm_n M + 1 := by
    unfold lc_kl
    rw [ekd, (new _ (Nat.le_refl _) (by omega)).2.2, a2]; rfl
  have kd1 : mm_k M1 (n + 3) = some (3, 0) ∧ (∀ k, mm_I M1 (n + 3) k = mm_I M (n + 3) k) ∧ (∀ k, mm_R M1 (n + 3) k = mm_R M (n + 3) k) ∧ _ := lg_same h lo g hP kd (by decide)
  have kl1 : mm_k M1 (n + 4) = some (0, 0) := (g.2.2.1 _ lt).trans kl
  refine ⟨M1, bx (pfR kd rd) (bx f0 (bx (pe_rc kl9) (b2x f1 (bx (pfR kd1.1 ((kd1.2.2.1 0).trans rd)) (bx (pe_rc kl1) (bx (lc_size kl1) ?_)))))), lg_step h lo g hP ⟨fun q hq => (li (lo_in hq) (lne q hq) (h.2.2.1.1 q hq)).1, L1, (li (o2 := 11) (by decide) (by omega) h.2.2.1.2.2.1).1, lg_ds h lo g hP ?_⟩ ⟨fun q hq => (li (lo_in hq) (lne q hq) (h.2.2.1.1 q hq)).2.2.2.trans (h.2.2.2.1.1 q hq), s1, (li (o2 := 11) (by decide) (by omega) h.2.2.1.2.2.1).2.2.2.trans h.2.2.2.1.2.2⟩ (fun q hq c _ hc2 => (li (lo_in hq) (lne q hq) (h.2.2.1.1 q hq)).2.2.1 c) (fun c _ hc => (o1 c hc).trans (it9 c)) (fun i _ hi => (li (o2 := 11) (by decide) (by omega) h.2.2.1.2.2.1).2.2.1 i) (fun q hq c hc hc2 => absurd hc hc2) (fun c hc hc2 => ?_) (fun i hi hi2 => absurd hi hi2) (fun q hq c hc hc2 => absurd hc hc2)⟩
  · show some (mm_I M1 (n + 4) 2 - 1, M1) = _
    rw [s1, nI_pred]
  · rcases e1 with ⟨e, -⟩ | e
    · exact Or.inl (e.trans el9)
    · exact Or.inr (by have := g9.1; omega)
  · have e : c = d := by omega
    subst e
    refine ⟨?_, ?_, by rw [ekd]; omega, by rw [ekl]; omega, fun c2 hc3 hc4 => by omega⟩
    · unfold lg_d
      rw [ekd, ekl]
      exact ⟨((new _ (Nat.le_refl _) (by omega)).1).trans a1, by omega, ((new _ (Nat.le_refl _) (by omega)).2.2 0).trans a2, ((new _ (by omega) (by omega)).1).trans a3, by omega⟩
    · unfold lg_dI
      rw [ekd, e2, (new _ (Nat.le_refl _) (by omega)).2.1, a4]
      exact ⟨rfl, fun k hk => absurd hk (Nat.not_lt_zero k)⟩
end
