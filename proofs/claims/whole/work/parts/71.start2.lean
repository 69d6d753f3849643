section
variable {n k : Nat} {σ τ υ : ls_S} {B M M1 : mm_M}
theorem lc_rw_eq {p m : Nat} {r r2 : Nat → Nat} (h : lc_rw n M p m r) (e : ∀ i, i < m → r i = r2 i) : lc_rw n M p m r2 := ⟨h.1, h.2.1, h.2.2.1, h.2.2.2.1, h.2.2.2.2.1, fun i hi => (h.2.2.2.2.2 i hi).trans (congrArg nI (e i hi))⟩
theorem lc_rw_less {p m m2 : Nat} {r : Nat → Nat} (h : lc_rw n M p m r) (hm : m2 ≤ m) : lc_rw n (mm_sI M (n + lc_lo p) 2 (nI m2)) p m2 r := by
  obtain ⟨k1, r1, k2, h1, e1, e2⟩ := h
  refine ⟨k1, r1, k2, by omega, by rw [mm_II, if_pos ⟨rfl, rfl⟩], fun i hi => ?_⟩
  rw [mm_II, if_neg (by omega)]
  exact e2 i (by omega)
/-- how long THE ROW's first part is kept -/
def ls_n0 (σ : ls_S) (p : Nat) : Nat := if σ 6 0 < (ls_dq σ p (σ 3 0)).1 then σ 6 0 else (ls_dq σ p (σ 3 0)).1
theorem ls_n0_le (σ : ls_S) (p : Nat) : ls_n0 σ p ≤ (ls_dq σ p (σ 3 0)).1 := by
  unfold ls_n0
  split <;> omega
theorem cl_askDue {p : Nat} (h : lc n σ B M) (hp : p < 4) (hG : ls_G k σ) : ∃ M1, f_X6_askDue M (some (n + lc_lo p)) (nI (σ 6 0)) (some (n + 1)) = some M1 ∧ lc_dr n p M M1 ∧ lc_rw n M1 p (ls_n0 σ p) (ls_dq σ p (σ 3 0)).2 := by
  have O1 := hG.1
  have h120 := O1.1
  have np : p < 5 := by omega
  have O4 := hG.2.2.2.1
  have h8 := hG.2.1.2.2.2.2 p hp
  have h6 := hG.2.1.2.2.1
  have i5 := h.2.1.2.2.2.2.1 p hp
  have hd0 := lc_dr_s (lc_dr_rf n p M) 0
  have hw0 : lc_rw n (mm_sI M (n + lc_lo p) 2 0) p 0 (ls_dq σ p 0).2 := ⟨lc_kla h np, lc_rlr h np, lc_klr h np, by omega, by rw [mm_II, if_pos ⟨rfl, rfl⟩]; rfl, fun i hi => absurd hi (Nat.not_lt_zero i)⟩
  have eA : mm_pI M (some (n + lc_lo p)) 7 2 0 = some (mm_sI M (n + lc_lo p) 2 0) := pe_pI 2 _ (lc_kla h np)
  generalize mm_sI M (n + lc_lo p) 2 0 = M0 at hd0 hw0 eA
  obtain ⟨M1, hq, hd1, hw1⟩ := pe_cnt (body := fun y : mm_M × Int32 => f_X6_askDue_7 y.1 (some (n + lc_lo p)) (nI (σ 6 0)) (some (n + 1)) y.2) (x := (M0, 0)) (fun c y => ∃ M2, y = (M2, nI c) ∧ lc_dr n p M M2 ∧ lc_rw n M2 p (ls_dq σ p c).1 (ls_dq σ p c).2) (fun M2 => lc_dr n p M M2 ∧ lc_rw n M2 p (ls_n0 σ p) (ls_dq σ p (σ 3 0)).2) (σ 3 0) ⟨M0, rfl, hd0, hw0⟩ (by
      rintro c y hc ⟨M2, rfl, hd2, hw2⟩
      have hl := lc_sr h hp O4 h120 hd2 hw2
      obtain ⟨d1, d2, d3⟩ := ls_dq_ok O1 p c (by omega)
      have hmu := lc_mostUrgent hl O1 np (c := c) hc (show σ 8 p ≤ 110000 by omega) (ls_G_okc hG hp hc)
      rw [ls_ds_c (σ := σ) (τ := ls_sr σ p (ls_dq σ p c).1 (ls_dq σ p c).2) (fun q => rfl) rfl] at hmu
      have hmu : f_X5_mostUrgent M2 (some (lc_hd n M2 p c)) (nI (σ 8 p)) (some (n + 1)) = some (ls_d1 (ls_ds σ (480 * p + 4 * c) (σ 8 p) 1 (σ 0 c))) := hmu
      have h4 := (O1.2.1 c hc).2
      have X : ∀ {z}, (if ls_d1 (ls_ds σ (480 * p + 4 * c) (σ 8 p) 1 (σ 0 c)) < 0 then f_X6_askDue_59 M2 (some (n + lc_lo p)) (nI (σ 6 0)) (some (n + 1)) (nI c) else f_X6_askDue_44 M2 (some (n + lc_lo p)) (nI (σ 6 0)) (some (n + 1)) (nI c) (ls_d1 (ls_ds σ (480 * p + 4 * c) (σ 8 p) 1 (σ 0 c)))) = z → f_X6_askDue_7 M2 (some (n + lc_lo p)) (nI (σ 6 0)) (some (n + 1)) (nI c) = z := fun q => bx (lc_lR hl np) (bx (lc_lrc hl np) (bx (lc_lsz hl np) (iff_ (show ¬ nI (σ 3 0) ≤ nI c from nI_ge hc (by omega)) (bx (lc_lR hl np) (bx (lc_lrc hl np) (bx (lc_lget hl h120 np hc) (bx (lc_hcc hl np hc) (bx (pfI (lc_kla hl np) (hd2.2.trans i5.1)) (bx (lc_hrcd hl np hc) (bx hmu q))))))))))
      have hn : ∀ M3, f_X6_askDue_59 M3 (some (n + lc_lo p)) (nI (σ 6 0)) (some (n + 1)) (nI c) = some (.inl (M3, nI (c + 1))) := fun M3 => by
        show some (Sum.inl (M3, nI c + 1)) = _
        rw [nI_1]
      have hD : ls_dq σ p (c + 1) = match ls_ds σ (480 * p + 4 * c) (σ 8 p) 1 (σ 0 c) with
        | none => ls_dq σ p c
        | some y => ((ls_dq σ p c).1 + 1, ls_in (ls_dq σ p c).2 (4 * c + y.1) (ls_ip (fun i => ls_pc σ p ((ls_dq σ p c).2 i)) y.2 (ls_dq σ p c).1)) := rfl
      rw [hD]
      cases hy : ls_ds σ (480 * p + 4 * c) (σ 8 p) 1 (σ 0 c) with
      | none =>
        rw [hy] at X
        exact ⟨_, X (ift (show (-1 : Int32) < 0 by decide) (hn M2)), M2, rfl, hd2, hw2⟩
      | some y =>
        rw [hy] at X
        have hb := ls_ds_b _ _ _ _ _ _ hy
        have he := ls_ds_e _ _ _ _ _ _ hy
        obtain ⟨M3, e3, hd3, hw3⟩ := cl_append hw2 (by omega) (4 * c + y.1)
        have hw3' := lc_rw_eq (r2 := ls_in (ls_dq σ p c).2 (4 * c + y.1) (ls_dq σ p c).1) hw3 (fun i hi => by
          by_cases e : i = (ls_dq σ p c).1
          · rw [e, ls_in_at]; exact if_pos rfl
          · rw [ls_in_lt _ _ (by omega)]; exact if_neg e)
        have hpx : ls_pl σ (4 * c + y.1) := by
          show (4 * c + y.1) / 4 < σ 3 0 ∧ (4 * c + y.1) % 4 < σ 0 ((4 * c + y.1) / 4)
          rw [show (4 * c + y.1) / 4 = c by omega]
          exact ⟨hc, by omega⟩
        obtain ⟨M4, e4, hd4, hw4⟩ := cl_sinkLast h hp O1 O4 hG.2.2.1 h8 (lc_dr_tr hd2 hd3) hw3' (fun i hi => (d2 i hi).2) hpx
        have epc : ls_pc σ p (4 * c + y.1) = y.2 := by
          show ls_c0h (ls_at σ (480 * p + (4 * c + y.1))) (σ 8 p) = y.2
          rw [show 480 * p + (4 * c + y.1) = 480 * p + 4 * c + y.1 by omega, he.1]
          exact if_neg (by have := he.2.1; omega)
        rw [epc] at hw4
        exact ⟨_, X (iff_ (nI_pos (n := y.1) (by omega)) (bx (a := nI (4 * c + y.1)) (by rw [← ls_ix4]; rfl) (bx (pe_rc hw2.1) (bx e3 (bx (pe_rc hw3.1) (bx e4 (hn M4))))))), M4, rfl, hd4, hw4⟩) (by
      rintro y ⟨M2, rfl, hd2, hw2⟩
      have hl := lc_sr h hp O4 h120 hd2 hw2
      obtain ⟨d1, d2, d3⟩ := ls_dq_ok O1 p (σ 3 0) (Nat.le_refl _)
      have emin : (if nI (σ 6 0) < nI (ls_dq σ p (σ 3 0)).1 then nI (σ 6 0) else nI (ls_dq σ p (σ 3 0)).1) = nI (ls_n0 σ p) := by
        unfold ls_n0
        by_cases e : σ 6 0 < (ls_dq σ p (σ 3 0)).1
        · rw [if_pos e, if_pos (nI_lt e (by omega))]
        · rw [if_neg e, if_neg (nI_nlt (by omega) (by omega))]
      refine ⟨_, bx (lc_lR hl np) (bx (lc_lrc hl np) (bx (lc_lsz hl np) (ift (show nI (σ 3 0) ≤ nI (σ 3 0) from nI_le (Nat.le_refl _) (by omega)) (mpx (bx (pfI hw2.1 hw2.2.2.2.2.1) (bx (a := mm_sI M2 (n + lc_lo p) 2 (nI (ls_n0 σ p))) (by rw [emin]; exact pe_pI 2 _ hw2.1) rfl)))))), lc_dr_s hd2 _, lc_rw_less hw2 (ls_n0_le σ p)⟩)
  exact ⟨M1, bx eA hq, hd1, hw1⟩
theorem cl_hasCard {p m : Nat} {r : Nat → Nat} (hw : lc_rw n M p m r) (hr : ∀ i, i < m → r i < 480) {c : Nat} (hc : c < 480) : f_X6_hasCard M (some (n + lc_lo p)) (nI c) = some (if ∃ i, i < m ∧ r i / 4 = c then 1 else 0) := by
  obtain ⟨k1, r1, k2, h1, e1, e2⟩ := hw
  obtain ⟨z, hz, rfl⟩ := pe_loop (body := fun x : Int32 => f_X6_hasCard_2 M (some (n + lc_lo p)) (nI c) x) (x := 0) (fun i x => x = nI i ∧ ∀ j, j < i → r j / 4 ≠ c) (fun z => z = (if ∃ i, i < m ∧ r i / 4 = c then (1 : Int32) else 0)) m ⟨rfl, fun j hj => absurd hj (Nat.not_lt_zero j)⟩ (by
      rintro i x hi ⟨rfl, hn⟩
      by_cases e : i = m
      · subst e
        exact Or.inr ⟨0, bx (pfI k1 e1) (ift (nI_le (Nat.le_refl _) (by omega)) (mpx rfl)), (if_neg (fun ⟨j, hj, q⟩ => hn j hj q)).symm⟩
      · have hi2 : i < m := by omega
        have hri := hr i hi2
        have X : ∀ {z}, (if nI (r i) / 4 = nI c then mm_mp (f_X6_hasCard_31 M) else f_X6_hasCard_33 M (some (n + lc_lo p)) (nI c) (nI i)) = z → f_X6_hasCard_2 M (some (n + lc_lo p)) (nI c) (nI i) = z := fun q => bx (pfI k1 e1) (iff_ (nI_ge hi2 (by omega)) (bx (pfR k1 r1) (bx (pe_ln k2 (by omega)) (iff_ (nI_ge (b := 120) (by omega) (by omega)) (bx (pfR k1 r1) (bx (paI k2 (by omega) (by omega) (e2 i hi2)) q))))))
        have ed : nI (r i) / 4 = nI (r i / 4) := pk_div (d := 4) (by omega) (by omega) (by omega)
        by_cases eb : r i / 4 = c
        · exact Or.inr ⟨1, X (ift (by rw [ed, eb]) (mpx rfl)), (if_pos ⟨i, hi2, eb⟩).symm⟩
        · refine Or.inl ⟨nI (i + 1), X (iff_ (fun q => eb ((nI_eq (by omega) (by omega)).mp (ed.symm.trans q))) ?_), ⟨rfl, fun j hj => ?_⟩, hi2⟩
          · show some (Sum.inl (nI i + 1)) = _
            rw [nI_1]
          · by_cases e2 : j = i
            · rw [e2]; exact eb
            · exact hn j (by omega))
  exact hz
theorem cl_isReady {p c : Nat} (h : lc n σ B M) (h1 : ls_O1 σ) (hp : p < 4) (hc : c < σ 3 0) (h8 : σ 8 p ≤ 110000) (hk : ∀ c, c < σ 3 0 → ls_okc σ p c (σ 8 p)) : f_X6_isReady M (some (n + lc_lo p)) (some (lc_kd n M c)) (some (n + 1)) = some (if ls_rdy σ p c then 1 else 0) := by
  have h120 := h1.1
  have np : p < 5 := by omega
  obtain ⟨l4, tg⟩ := h1.2.2 c hc
  have kk := h.1.2.2.2.2.2.1 c hc
  have i8 := h.2.1.2.2.2.2.2.2.2.1 c hc
  obtain ⟨z, hz, rfl⟩ := pe_loop (body := fun x : Int32 => f_X6_isReady_8 M (some (n + lc_lo p)) (some (lc_kd n M c)) (some (n + 1)) x) (x := 0) (fun i x => x = nI i ∧ ∀ j, j < i → ls_knc σ p (σ 1 (4 * c + j))) (fun z => z = (if ls_rdy σ p c then (1 : Int32) else 0)) (σ 2 c) ⟨rfl, fun j hj => absurd hj (Nat.not_lt_zero j)⟩ (by
      rintro i x hi ⟨rfl, hn⟩
      by_cases e : i = σ 2 c
      · subst e
        exact Or.inr ⟨1, bx (pfI kk.1 i8.1) (ift (nI_le (Nat.le_refl _) (by omega)) (mpx rfl)), (if_pos hn).symm⟩
      · have hi2 : i < σ 2 c := by omega
        have ht := tg i hi2
        have fk := lc_hKnown h h1 np ht h8 (hk _ ht)
        have X : ∀ {z}, (if (if ∀ s, s < σ 0 (σ 1 (4 * c + i)) → ls_kn (ls_at σ (480 * p + 4 * σ 1 (4 * c + i) + s)) (σ 8 p) then (1 : Int32) else 0) = 0 then mm_mp (f_X6_isReady_55 M) else f_X6_isReady_57 M (some (n + lc_lo p)) (some (lc_kd n M c)) (some (n + 1)) (nI i)) = z → f_X6_isReady_8 M (some (n + lc_lo p)) (some (lc_kd n M c)) (some (n + 1)) (nI i) = z := fun q => bx (pfI kk.1 i8.1) (iff_ (nI_ge hi2 (by omega)) (bx (pfR kk.1 kk.2.2.1) (bx (pe_ln kk.2.2.2.1 (by omega)) (iff_ (nI_ge (b := 4) (by omega) (by omega)) (bx (pfR kk.1 kk.2.2.1) (bx (paI kk.2.2.2.1 (show i < 4 by omega) (by omega) (i8.2 i hi2)) (bx (pe_rc (lc_kla h np)) (bx (lc_handAt h h120 np ht) (iff_ (fun q => nomatch q) (bx (pfI (lc_kla h np) (h.2.1.2.2.2.2.1 p hp).1) (bx (lc_hrcd h np ht) (bx fk q))))))))))))
        by_cases hkn : ls_knc σ p (σ 1 (4 * c + i))
        · refine Or.inl ⟨nI (i + 1), X (iff_ (by rw [if_pos hkn]; decide) ?_), ⟨rfl, lt_s hn hkn⟩, hi2⟩
          show some (Sum.inl (nI i + 1)) = _
          rw [nI_1]
        · exact Or.inr ⟨0, X (ift (if_neg hkn) (mpx rfl)), (if_neg (fun q => hkn (q i hi2))).symm⟩)
  exact hz
theorem cl_askFresh {p n0 : Nat} {r0 : Nat → Nat} (h : lc n σ B M) (hp : p < 4) (hG : ls_G k σ) (hd1 : lc_dr n p M M1) (hw1 : lc_rw n M1 p n0 r0) (h0 : (∀ i, i < n0 → ls_pl σ (r0 i)) ∧ ∀ i, i < n0 → ∀ j, j < i → r0 i / 4 ≠ r0 j / 4) : ∃ M2, f_X6_askFresh M1 (some (n + lc_lo p)) (nI (σ 7 0)) (some (n + 3)) (some (n + 1)) = some M2 ∧ lc_dr n p M M2 ∧ lc_rw n M2 p (ls_fq σ p n0 r0 (σ 3 0)).1 (ls_fq σ p n0 r0 (σ 3 0)).2 := by
  have O1 := hG.1
  have h120 := O1.1
  have np : p < 5 := by omega
  have O4 := hG.2.2.2.1
  have h8 := hG.2.1.2.2.2.2 p hp
  have h7 := hG.2.1.2.2.2.1
  have okc : ∀ c, c < σ 3 0 → ls_okc σ p c (σ 8 p) := fun c h => ls_G_okc hG hp h
  refine pe_loop (body := fun y : mm_M × Int32 × Int32 => f_X6_askFresh_6 y.1 (some (n + lc_lo p)) (some (n + 3)) (some (n + 1)) y.2.1 y.2.2) (x := (M1, nI (σ 7 0), 0)) (fun c y => ∃ M2, y = (M2, nI (σ 7 0 - ((ls_fq σ p n0 r0 c).1 - n0)), nI c) ∧ lc_dr n p M M2 ∧ lc_rw n M2 p (ls_fq σ p n0 r0 c).1 (ls_fq σ p n0 r0 c).2) (fun M2 => lc_dr n p M M2 ∧ lc_rw n M2 p (ls_fq σ p n0 r0 (σ 3 0)).1 (ls_fq σ p n0 r0 (σ 3 0)).2) (σ 3 0) ⟨M1, by show _ = (M1, nI (σ 7 0 - (n0 - n0)), _); rw [Nat.sub_self, Nat.sub_zero]; rfl, hd1, hw1⟩ (by
      rintro c y hi ⟨M2, rfl, hd2, hw2⟩
      have hl := lc_sr h hp O4 h120 hd2 hw2
      obtain ⟨a1, a2, a3, a4⟩ := ls_fq_ok O1 p h0 c hi
      by_cases e : c = σ 3 0
      · right
        subst e
        exact ⟨M2, bx (lc_lR hl np) (bx (lc_lrc hl np) (bx (lc_lsz hl np) (ift (show nI (σ 3 0) ≤ nI (σ 3 0) from nI_le (Nat.le_refl _) (by omega)) (mpx rfl)))), hd2, hw2⟩
      · have hc : c < σ 3 0 := by omega
        have X : ∀ {z}, f_X6_askFresh_18 M2 (some (n + lc_lo p)) (some (n + 3)) (some (n + 1)) (nI (σ 7 0 - ((ls_fq σ p n0 r0 c).1 - n0))) (nI c) = z → f_X6_askFresh_6 M2 (some (n + lc_lo p)) (some (n + 3)) (some (n + 1)) (nI (σ 7 0 - ((ls_fq σ p n0 r0 c).1 - n0))) (nI c) = z := fun q => bx (lc_lR hl np) (bx (lc_lrc hl np) (bx (lc_lsz hl np) (iff_ (show ¬ nI (σ 3 0) ≤ nI c from nI_ge hc (by omega)) q)))
        by_cases hleft : σ 7 0 ≤ (ls_fq σ p n0 r0 c).1 - n0
        · right
          have hs := ls_fq_stop p hleft (σ 3 0 - c)
          rw [show c + (σ 3 0 - c) = σ 3 0 by omega] at hs
          rw [hs]
          exact ⟨M2, X (ift (by rw [show σ 7 0 - ((ls_fq σ p n0 r0 c).1 - n0) = 0 by omega]; decide) (mpx rfl)), hd2, hw2⟩
        · left
          have h4 := (O1.2.1 c hc).2
          have hff := lc_firstFresh hl O1 np (c := c) (on := σ 8 p) hc (okc c hc)
          rw [ls_ff_c (σ := σ) (τ := ls_sr σ p (ls_fq σ p n0 r0 c).1 (ls_fq σ p n0 r0 c).2) rfl rfl] at hff
          have hff : f_X5_firstFresh M2 (some (lc_hd n M2 p c)) = some (if ls_ff σ (480 * p + 4 * c) (σ 0 c) 0 < σ 0 c then nI (ls_ff σ (480 * p + 4 * c) (σ 0 c) 0) else -1) := hff
          have Y : ∀ {z}, (if (if ls_ff σ (480 * p + 4 * c) (σ 0 c) 0 < σ 0 c then nI (ls_ff σ (480 * p + 4 * c) (σ 0 c) 0) else -1) < 0 then f_X6_askFresh_82 M2 (some (n + lc_lo p)) (some (n + 3)) (some (n + 1)) (nI (σ 7 0 - ((ls_fq σ p n0 r0 c).1 - n0))) (nI c) else f_X6_askFresh_45 M2 (some (n + lc_lo p)) (some (n + 3)) (some (n + 1)) (nI (σ 7 0 - ((ls_fq σ p n0 r0 c).1 - n0))) (nI c) (if ls_ff σ (480 * p + 4 * c) (σ 0 c) 0 < σ 0 c then nI (ls_ff σ (480 * p + 4 * c) (σ 0 c) 0) else -1)) = z → f_X6_askFresh_6 M2 (some (n + lc_lo p)) (some (n + 3)) (some (n + 1)) (nI (σ 7 0 - ((ls_fq σ p n0 r0 c).1 - n0))) (nI c) = z := fun q => X (iff_ (nI_nle (by omega) (by omega)) (bx (lc_lR hl np) (bx (lc_lrc hl np) (bx (lc_lget hl h120 np hc) (bx (lc_hcc hl np hc) (bx (lc_hrcd hl np hc) (bx hff q)))))))
          have hn : ∀ (M3 : mm_M) (u : Int32), f_X6_askFresh_82 M3 (some (n + lc_lo p)) (some (n + 3)) (some (n + 1)) u (nI c) = some (.inl (M3, u, nI (c + 1))) := fun M3 u => by
            show some (Sum.inl (M3, u, nI c + 1)) = _
            rw [nI_1]
          have hF : ls_fq σ p n0 r0 (c + 1) = if ls_fc σ p n0 r0 (ls_fq σ p n0 r0 c).1 c then ((ls_fq σ p n0 r0 c).1 + 1, fun i => if i = (ls_fq σ p n0 r0 c).1 then 4 * c + ls_ff σ (480 * p + 4 * c) (σ 0 c) 0 else (ls_fq σ p n0 r0 c).2 i) else ls_fq σ p n0 r0 c := rfl
          rw [hF]
          by_cases h1 : ls_ff σ (480 * p + 4 * c) (σ 0 c) 0 < σ 0 c
          · rw [if_pos h1] at Y
            have hhc := cl_hasCard hw2 (fun i hi => ls_o4_lt a4 O1 i hi) (show c < 480 by omega)
            by_cases h2 : ∃ i, i < (ls_fq σ p n0 r0 c).1 ∧ (ls_fq σ p n0 r0 c).2 i / 4 = c
            · rw [if_pos h2] at hhc
              rw [if_neg (fun q => by
                obtain ⟨i, hi1, hi2⟩ := h2
                by_cases hin : i < n0
                · rw [a2 i hin] at hi2; exact q.2.2.1 i hin hi2
                · have := a3 i (by omega) hi1; omega)]
              exact ⟨_, Y (iff_ (nI_pos (by omega)) (bx (pe_rc hw2.1) (bx hhc (iff_ ne10 (hn M2 _))))), ⟨M2, rfl, hd2, hw2⟩, hc⟩
            · rw [if_neg h2] at hhc
              have hry := cl_isReady hl O1 hp (c := c) hc (show σ 8 p ≤ 110000 by omega) okc
              have hry : f_X6_isReady M2 (some (n + lc_lo p)) (some (lc_kd n M2 c)) (some (n + 1)) = some (if ls_rdy σ p c then 1 else 0) := hry
              have Z : ∀ {z}, (if (if ls_rdy σ p c then (1 : Int32) else 0) = 0 then f_X6_askFresh_82 M2 (some (n + lc_lo p)) (some (n + 3)) (some (n + 1)) (nI (σ 7 0 - ((ls_fq σ p n0 r0 c).1 - n0))) (nI c) else f_X6_askFresh_68 M2 (some (n + lc_lo p)) (some (n + 3)) (some (n + 1)) (nI (σ 7 0 - ((ls_fq σ p n0 r0 c).1 - n0))) (nI c) (nI (ls_ff σ (480 * p + 4 * c) (σ 0 c) 0))) = z → f_X6_askFresh_6 M2 (some (n + lc_lo p)) (some (n + 3)) (some (n + 1)) (nI (σ 7 0 - ((ls_fq σ p n0 r0 c).1 - n0))) (nI c) = z := fun q => Y (iff_ (nI_pos (by omega)) (bx (pe_rc hw2.1) (bx hhc (ift rfl (bx (pe_rc (lc_kdk hl)) (bx (lc_cardAt hl h120 hc) (bx (pe_rc hw2.1) (bx hry q))))))))
              by_cases h3 : ls_rdy σ p c
              · have hfc : ls_fc σ p n0 r0 (ls_fq σ p n0 r0 c).1 c := ⟨by omega, h1, fun j hj q => h2 ⟨j, by omega, by rw [a2 j hj]; exact q⟩, h3⟩
                rw [if_pos hfc]
                have hok2 := ls_fq_ok O1 p h0 (c + 1) hc
                rw [hF, if_pos hfc] at hok2
                have hmle := hok2.2.2.2.1
                simp only at hmle
                obtain ⟨M3, e3, hd3, hw3⟩ := cl_append hw2 (by omega) (4 * c + ls_ff σ (480 * p + 4 * c) (σ 0 c) 0)
                have eL : nI (σ 7 0 - ((ls_fq σ p n0 r0 c).1 - n0)) + (-1) = nI (σ 7 0 - ((ls_fq σ p n0 r0 c).1 + 1 - n0)) := by
                  rw [show σ 7 0 - ((ls_fq σ p n0 r0 c).1 - n0) = σ 7 0 - ((ls_fq σ p n0 r0 c).1 + 1 - n0) + 1 by omega, pk_m1]
                refine ⟨_, Z (iff_ (by rw [if_pos h3]; decide) (bx (a := nI (4 * c + ls_ff σ (480 * p + 4 * c) (σ 0 c) 0)) (by rw [← ls_ix4]; rfl) (bx (pe_rc hw2.1) (bx e3 (hn M3 _))))), ⟨M3, by rw [eL], lc_dr_tr hd2 hd3, hw3⟩, hc⟩
              · rw [if_neg (fun q => h3 q.2.2.2)]
                exact ⟨_, Z (ift (if_neg h3) (hn M2 _)), ⟨M2, rfl, hd2, hw2⟩, hc⟩
          · rw [if_neg h1] at Y
            rw [if_neg (fun q => h1 q.2.1)]
            exact ⟨_, Y (ift (show (-1 : Int32) < 0 by decide) (hn M2 _)), ⟨M2, rfl, hd2, hw2⟩, hc⟩)
end
