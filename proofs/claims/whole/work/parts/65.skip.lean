section
variable {n k : Nat} {σ τ : ls_S} {B M M1 : mm_M}
theorem ls_o4_map {m m2 : Nat} {r : Nat → Nat} (h : ls_o4 σ m r) (g : Nat → Nat) (hm : m2 ≤ m) (hg : ∀ i, i < m2 → g i < m) (hi : ∀ i, i < m2 → ∀ j, j < i → g i ≠ g j) : ls_o4 σ m2 (fun i => r (g i)) := by
  refine ⟨Nat.le_trans hm h.1, fun i h2 => h.2.1 _ (hg i h2), fun i h2 j h3 => ?_⟩
  have h4 := hi i h2 j h3
  rcases Nat.lt_or_gt_of_ne h4 with h5 | h5
  · exact fun e => h.2.2 _ (hg j (by omega)) _ h5 e.symm
  · exact h.2.2 _ (hg i h2) _ h5
theorem ls_o4_ne {m : Nat} {r : Nat → Nat} (h : ls_o4 σ m r) (i : Nat) (h0 : 0 < i) (hi : i < m) : r i ≠ r 0 := fun e => h.2.2 i hi 0 h0 (by rw [e])
theorem ls_o4_eq {m : Nat} {r r2 : Nat → Nat} (h : ls_o4 σ m r) (e : ∀ i, i < m → r2 i = r i) : ls_o4 σ m r2 := by
  refine ⟨h.1, fun i hi => ?_, fun i hi j hj => ?_⟩
  · rw [e i hi]; exact h.2.1 i hi
  · rw [e i hi, e j (by omega)]; exact h.2.2 i hi j hj
theorem ca_skip (hM : ls_M n σ M M) (hc : lc n σ M M) (hG : ls_G k σ) (x : Int32) : ls_cc n k M (fun M => f_X9_skip M (some n) x) (fun M => f_X10_skip M (some (n + 31)) x) := by
  rcases pe_pupil x with ⟨p, hp, rfl⟩ | hx
  · have i5 := hc.2.1.2.2.2.2.1 p hp
    have O4 := hG.2.2.2.1
    have o4 := ls_o4_of O4 hp
    have h120 := hG.1.1
    have hl := (O4 p hp).1
    have kl := lc_kla hc (show p < 5 by omega)
    by_cases h0 : σ 10 p = 0
    · exact ⟨-4, M, M, bx (pe_rc (lc_k0 hc)) (bx (lc_learnerAt hc hp) (iff_ (fun q => nomatch q) (bx (pfI kl i5.2) (ift (by rw [h0]; decide) rfl)))), bx (ls_isPupil_in M hp) (iff_ ne10 (bx (ls_fR hM 10 (by decide)) (bx (ls_aI hM 10 p (by decide) hp) (ift (show nI (σ 10 p) = 0 by rw [h0]; decide) rfl)))), ls_no hM hc hG⟩
    · have rw0 := lc_rw_of hc hp O4 h120
      obtain ⟨MA, eA, dA, wA⟩ := cl_dropFirst rw0 (by omega) (fun i hi => by have := ls_o4_lt o4 hG.1 i hi; omega) (ls_o4_ne o4)
      obtain ⟨MB, eB, dB, wB⟩ := cl_append wA (by omega) (σ 9 (480 * p))
      have d := lc_dr_tr dA dB
      rw [show σ 10 p - 1 + 1 = σ 10 p by omega] at wB
      have hM1 := ls_M_mv (M1 := MB) hM (fun a h1 h2 => by
        have hn : ¬ lc_rc n p a := by have := lc_lo29 (show p < 5 by omega); unfold lc_rc; omega
        exact ⟨lc_di_k d.1 a, (d.1.2.2.2 a hn).1, lc_di_R d.1 a, (d.1.2.2.2 a hn).2⟩)
      obtain ⟨MC, τ, eC, hC, sC, t8, t10, t9⟩ := ls_dropFirst hM1 hp (by omega) (by omega)
      obtain ⟨MD, eD, hD⟩ := ls_tI hC 9 (480 * p + (σ 10 p - 1)) (σ 9 (480 * p)) (by decide) rfl (show 480 * p + (σ 10 p - 1) < 1920 by omega)
      obtain ⟨ME, eE, hE⟩ := ls_tI hD 10 p (σ 10 p) (by decide) rfl hp
      have sE := ls_rs_10 (ls_rs_9 (p := p) sC (show σ 10 p - 1 < 480 by omega) (σ 9 (480 * p))) (σ 10 p)
      have e9 : ∀ i, i < σ 10 p → mm_u (mm_u τ 9 (480 * p + (σ 10 p - 1)) (σ 9 (480 * p))) 10 p (σ 10 p) 9 (480 * p + i) = if i = σ 10 p - 1 then σ 9 (480 * p) else σ 9 (480 * p + (i + 1)) := fun i hi => by
        rw [mm_u, if_neg (by omega), mm_u]
        by_cases e : i = σ 10 p - 1
        · rw [if_pos ⟨rfl, by rw [e]⟩, if_pos e]
        · rw [if_neg (by omega), if_neg e]
          exact t9 i (by omega)
      have e10 : mm_u (mm_u τ 9 (480 * p + (σ 10 p - 1)) (σ 9 (480 * p))) 10 p (σ 10 p) 10 p = σ 10 p := by rw [mm_u, if_pos ⟨rfl, rfl⟩]
      have e8 : mm_u (mm_u τ 9 (480 * p + (σ 10 p - 1)) (σ 9 (480 * p))) 10 p (σ 10 p) 8 p = σ 8 p := by rw [mm_u, if_neg (by omega), mm_u, if_neg (by omega), t8]
      generalize mm_u (mm_u τ 9 (480 * p + (σ 10 p - 1)) (σ 9 (480 * p))) 10 p (σ 10 p) = υ at *
      have hcl : lc n υ M MB := lc_row hc hp d.1 sE O4 h120 (by rw [d.2, i5.1, e8]) (by rw [wB.2.2.2.2.1, e10]) (fun i hi => by rw [e10] at hi; rw [wB.2.2.2.2.2 i hi, e9 i hi])
      have ef : nI (σ 10 p) = nI (σ 10 p - 1) + 1 := by rw [nI_1]; congr 1; omega
      have rwc := wB.1
      refine ⟨nI (σ 10 p), MB, ME, bx (pe_rc (lc_k0 hc)) (bx (lc_learnerAt hc hp) (iff_ (fun q => nomatch q) (bx (pfI kl i5.2) (iff_ (nI_ne0 (by omega) (by omega)) (bx (pe_rc kl) (bx (cl_first rw0 (by omega)) (bx (pe_rc kl) (bx eA (bx (pe_rc wA.1) (bx eB (bx (pfI rwc wB.2.2.2.2.1) rfl))))))))))), bx (ls_isPupil_in _ hp) (iff_ ne10 (bx (ls_fR hM1 10 (by decide)) (bx (ls_aI hM1 10 p (by decide) hp) (iff_ (show ¬ nI (σ 10 p) = 0 from nI_ne0 (by omega) (by omega)) (bx (ls_fR hM1 9 (by decide)) (bx (a := nI (σ 9 (480 * p))) (by rw [ls_ix1]; exact ls_aI hM1 9 (480 * p) (by decide) (show 480 * p < 1920 by omega)) (bx (ls_rc hM1) (bx eC (bx (ls_fR hC 9 (by decide)) (bx (ls_fR hC 10 (by decide)) (bx (a := nI (σ 10 p - 1)) (by rw [← t10]; exact ls_aI hC 10 p (by decide) hp) (bx (a := MD) (by rw [ls_ix2]; exact eD) (bx (ls_fR hD 10 (by decide)) (bx (a := nI (σ 10 p - 1)) (by rw [← t10]; exact ls_aI hD 10 p (by decide) hp) (bx (a := ME) (by rw [← ef]; exact eE) (bx (ls_fR hE 10 (by decide)) (bx (a := nI (σ 10 p)) ?_ rfl))))))))))))))))), ls_fin hE hcl (ls_G_row hG hp sE e8 ?_)⟩
      · rw [show nI (σ 10 p) = ls_en 10 (υ 10 p) by rw [e10]; rfl]
        exact ls_aI hE 10 p (by decide) hp
      · rw [e10]
        refine ls_o4_eq (ls_o4_map o4 (fun i => if i = σ 10 p - 1 then 0 else i + 1) (Nat.le_refl _) (fun i hi => ?_) (fun i hi j hj => ?_)) (fun i hi => ?_)
        · show (if i = σ 10 p - 1 then 0 else i + 1) < _
          split <;> omega
        · show (if i = σ 10 p - 1 then 0 else i + 1) ≠ (if j = σ 10 p - 1 then 0 else j + 1)
          split <;> split <;> omega
        · rw [e9 i hi]
          by_cases e : i = σ 10 p - 1
          · rw [if_pos e]
            show _ = σ 9 (480 * p + (if i = σ 10 p - 1 then 0 else i + 1))
            rw [if_pos e, Nat.add_zero]
          · rw [if_neg e]
            show _ = σ 9 (480 * p + (if i = σ 10 p - 1 then 0 else i + 1))
            rw [if_neg e]
  · exact ⟨-1, M, M, bx (pe_rc (lc_k0 hc)) (bx (lc_learnerOut hc hx) (ift rfl rfl)), bx (ls_isPupil_out M hx) (ift rfl rfl), ls_no hM hc hG⟩
/-- a side that there is, or not -/
theorem pe_side (σ : ls_S) (x y : Int32) : (∃ c s, c < σ 3 0 ∧ s < σ 0 c ∧ x = nI c ∧ y = nI s) ∨ ¬ ls_sideI σ x y := by
  by_cases h : ls_sideI σ x y
  · exact Or.inl h
  · exact Or.inr h
theorem ls_O1s (h : ls_O1 σ) {c : Nat} (hc : c < σ 3 0) : σ 0 c < 2 ^ 31 := by have := (h.2.1 c hc).2; omega
theorem ls_G_ok (h : ls_G k σ) {p c s : Nat} (hp : p < 4) (hc : c < σ 3 0) (hs : s < σ 0 c) : ls_ok (ls_at σ (480 * p + 4 * c + s)) (σ 8 p) ∧ σ 12 (480 * p + 4 * c + s) ≤ 1 ∧ 480 * p + 4 * c + s < 1920 := by
  have h4 := (h.1.2.1 c hc).2
  have h120 := h.1.1
  have := h.2.2.1 p hp (4 * c + s) (by omega)
  rw [show 480 * p + (4 * c + s) = 480 * p + 4 * c + s by omega] at this
  exact ⟨this, h.2.2.2.2.2.2.1.1 _ (by omega), by omega⟩
theorem ls_G_okc (h : ls_G k σ) {p c : Nat} (hp : p < 4) (hc : c < σ 3 0) : ls_okc σ p c (σ 8 p) := ⟨fun s hs => (ls_G_ok h hp hc hs).1, fun s hs => (ls_G_ok h hp hc hs).2.1⟩
theorem ls_G_12 (h : ls_G k σ) {p c s : Nat} (hp : p < 4) (hc : c < σ 3 0) (hs : s < σ 0 c) {v : Nat} (hv : v ≤ 1) : ls_G k (mm_u σ 12 (480 * p + 4 * c + s) v) := by
  obtain ⟨g1, g2, g3, g4, g5, g6, g7, g8⟩ := h
  have h4 := (g1.2.1 c hc).2
  have h120 := g1.1
  refine ⟨g1, g2, g3, g4, g5, g6, ⟨fun q hq => ?_, g7.2⟩, fun q hq i hi => ⟨(g8 q hq i hi).1, fun z => ⟨((g8 q hq i hi).2 z).1, ((g8 q hq i hi).2 z).2.1, ?_⟩⟩⟩
  · rw [mm_u]
    split
    · exact hv
    · exact g7.1 q hq
  · rw [mm_u, if_neg (fun e => z ?_)]
    · exact ((g8 q hq i hi).2 z).2.2
    · show i / 4 < σ 3 0 ∧ i % 4 < σ 0 (i / 4)
      have e1 : i / 4 = c := by omega
      rw [e1]
      exact ⟨hc, by omega⟩
theorem lc_memRc (h : lc n σ B M) {p c s : Nat} (hp : p < 5) (hc : c < σ 3 0) (hs : s < σ 0 c) : mm_k M (lc_mu n M p c s) = some (9, 0) := ((h.1.2.2.2.1 p hp c hc).2.2.2.2.2 s hs).2.1
theorem ca_bury (hM : ls_M n σ M M) (hc : lc n σ M M) (hG : ls_G k σ) (x y z : Int32) : ls_cc n k M (fun M => f_X9_bury M (some n) x y z) (fun M => f_X10_bury M (some (n + 31)) x y z) := by
  have O1 := hG.1
  have h120 := O1.1
  rcases pe_pupil x with ⟨p, hp, rfl⟩ | hx
  · rcases pe_side σ y z with ⟨c, s, hc1, hs1, rfl, rfl⟩ | hs
    · obtain ⟨ok1, ok2, ok3⟩ := ls_G_ok hG hp hc1 hs1
      have h4 := (O1.2.1 c hc1).2
      have np : p < 5 := by omega
      have kl := lc_kla hc np
      have km := lc_memRc hc np hc1 hs1
      have i12 : mm_I M (lc_mu n M p c s) 5 = nI (σ 12 (480 * p + 4 * c + s)) := hc.2.1.2.2.2.2.2.2.1 p np c hc1 s hs1 5 (by omega)
      have X : ∀ {r}, f_X9_bury_26 M (nI c) (nI s) (some (n + lc_lo p)) (some (lc_mu n M p c s)) = r → f_X9_bury M (some n) (nI p) (nI c) (nI s) = r := fun q => bx (pe_rc (lc_k0 hc)) (bx (lc_learnerAt hc hp) (bx (pe_rc (lc_k0 hc)) (bx (lc_memoryOf hc O1 hp hc1 hs1) (iff_ (fun q => nomatch q) (iff_ (fun q => nomatch q) q)))))
      have Y : ∀ {M : mm_M}, ls_M n σ M M → ∀ {r}, f_X10_bury_16 M (some (n + 31)) (nI p) (nI c) (nI s) = r → f_X10_bury M (some (n + 31)) (nI p) (nI c) (nI s) = r := fun hM _ q => bx (ls_isPupil_in _ hp) (iff_ ne10 (bx (ls_rc hM) (bx (ls_isSide_in hM h120 hc1 hs1 (by omega)) (iff_ ne10 q))))
      have Z : ∀ {M : mm_M}, ls_M n σ M M → mm_aI M (some (ls_ad n 12)) 14 (nI p * 480 + 4 * nI c + nI s) = some (nI (σ 12 (480 * p + 4 * c + s))) := fun hM => by
        rw [ls_ix]; exact ls_aI hM 12 _ (by decide) (show _ < 1920 from ok3)
      by_cases hb : σ 12 (480 * p + 4 * c + s) = 0
      · have w1 := lc_wm hc np hc1 hs1 (k := 5) (by omega) O1 1
        have hG1 := ls_G_12 hG hp hc1 hs1 (v := 1) (by omega)
        have eP : mm_pZ M (some (lc_mu n M p c s)) 9 5 1 = some (mm_sI M (lc_mu n M p c s) 5 (ls_en (lc_fl 5) 1)) := pe_pZ 5 km (Or.inr rfl)
        have w1 : lc n (mm_u σ 12 (480 * p + 4 * c + s) 1) M (mm_sI M (lc_mu n M p c s) 5 (ls_en (lc_fl 5) 1)) := w1
        generalize mm_sI M (lc_mu n M p c s) 5 (ls_en (lc_fl 5) 1) = M0 at eP w1
        have e10 : mm_u σ 12 (480 * p + 4 * c + s) 1 10 p = σ 10 p := rfl
        have e9 : ∀ q, mm_u σ 12 (480 * p + 4 * c + s) 1 9 q = σ 9 q := fun q => rfl
        have e80 : mm_u σ 12 (480 * p + 4 * c + s) 1 8 p = σ 8 p := rfl
        have e30 : mm_u σ 12 (480 * p + 4 * c + s) 1 3 0 = σ 3 0 := rfl
        have O4 := hG1.2.2.2.1
        have o4 := ls_o4_of O4 hp
        rw [e10] at o4
        have rw0 := lc_rw_of w1 hp O4 (by rw [e30]; exact h120)
        rw [e10] at rw0
        have hl := o4.1
        rw [e30] at hl
        obtain ⟨MA, eA, dA, wA⟩ := cl_drop rw0 (x := 4 * c + s) (by omega) (fun i hi => by have := ls_o4_lt o4 hG1.1 i hi; omega)
        have hMA := ls_M_mv (M1 := MA) hM (fun a h1 h2 => by
          have hn : ¬ lc_rc n p a := by have := lc_lo29 np; unfold lc_rc; omega
          have hw := w1.2.2 a h1 h2
          exact ⟨(lc_di_k dA.1 a).trans hw.1, fun k => ((dA.1.2.2.2 a hn).1 k).trans (hw.2.1 k), fun k => (lc_di_R dA.1 a k).trans (hw.2.2.1 k), fun k => ((dA.1.2.2.2 a hn).2 k).trans (hw.2.2.2 k)⟩)
        obtain ⟨ME, eE, hE⟩ := ls_tZ hMA 12 (480 * p + 4 * c + s) 1 (by decide) rfl (show _ < 1920 from ok3) (Or.inr rfl)
        generalize mm_u σ 12 (480 * p + 4 * c + s) 1 = υ at *
        have hdk := ls_dk_b (fun i => υ 9 (480 * p + i)) (4 * c + s)
        obtain ⟨r, hr, MF, τ, rfl, hF, sF, t8, t10, t9⟩ := pe_cnt (body := fun y : mm_M × Int32 × Int32 => f_X10_bury_60 y.1 (some (n + 31)) (nI p) (nI c) (nI s) y.2.1 y.2.2) (x := (ME, 0, 0))
          (fun i y => ∃ M1 τ, y = (M1, nI (ls_dk (fun i => υ 9 (480 * p + i)) (4 * c + s) i), nI i) ∧ ls_M n τ MA M1 ∧ ls_rs υ τ p ∧ τ 8 p = υ 8 p ∧ τ 10 p = σ 10 p ∧ (∀ j, j < ls_dk (fun i => υ 9 (480 * p + i)) (4 * c + s) i → τ 9 (480 * p + j) = υ 9 (480 * p + ls_dm (fun i => υ 9 (480 * p + i)) (4 * c + s) i j)) ∧ ∀ j, i ≤ j → τ 9 (480 * p + j) = υ 9 (480 * p + j))
          (fun r => ∃ M1 τ, r = (nI (ls_dk (fun i => υ 9 (480 * p + i)) (4 * c + s) (σ 10 p)), M1) ∧ ls_M n τ MA M1 ∧ ls_rs υ τ p ∧ τ 8 p = υ 8 p ∧ τ 10 p = ls_dk (fun i => υ 9 (480 * p + i)) (4 * c + s) (σ 10 p) ∧ (∀ j, j < ls_dk (fun i => υ 9 (480 * p + i)) (4 * c + s) (σ 10 p) → τ 9 (480 * p + j) = υ 9 (480 * p + ls_dm (fun i => υ 9 (480 * p + i)) (4 * c + s) (σ 10 p) j))) (σ 10 p) ⟨ME, υ, rfl, hE, ls_rs_rf υ p, rfl, e10, fun j hj => absurd hj (Nat.not_lt_zero j), fun j _ => rfl⟩ (by
            rintro i y hi ⟨M1, τ, rfl, hm1, hs, t8, t10, ta, tb⟩
            have hi1 := (hdk i).1
            have ei : υ 9 (480 * p + i) < 480 := by
              have := ls_o4_lt o4 hG1.1 i hi
              exact this
            have X : ∀ {r}, f_X10_bury_71 M1 (some (n + 31)) (nI p) (nI c) (nI s) (nI (ls_dk (fun i => υ 9 (480 * p + i)) (4 * c + s) i)) (nI i) = r → f_X10_bury_60 M1 (some (n + 31)) (nI p) (nI c) (nI s) (nI (ls_dk (fun i => υ 9 (480 * p + i)) (4 * c + s) i)) (nI i) = r := fun q => bx (ls_fR hm1 10 (by decide)) (bx (ls_aI hm1 10 p (by decide) hp) (iff_ (show ¬ nI (τ 10 p) ≤ nI i by rw [t10]; exact nI_ge hi (by omega)) q))
            have A : mm_aI M1 (some (ls_ad n 9)) 12 (nI p * 480 + nI i) = some (nI (υ 9 (480 * p + i))) := by
              rw [ls_ix2, ← tb i (Nat.le_refl _)]
              exact ls_aI hm1 9 (480 * p + i) (by decide) (show 480 * p + i < 1920 by omega)
            have hn : ∀ (M2 : mm_M) (u : Int32), f_X10_bury_121 M2 (some (n + 31)) (nI p) (nI c) (nI s) u (nI i) = some (.inl (M2, u, nI (i + 1))) := fun M2 u => by
              show some (Sum.inl (M2, u, nI i + 1)) = _
              rw [nI_1]
            by_cases e : υ 9 (480 * p + i) = 4 * c + s
            · have e3 : ls_dk (fun i => υ 9 (480 * p + i)) (4 * c + s) (i + 1) = ls_dk (fun i => υ 9 (480 * p + i)) (4 * c + s) i := if_pos e
              have e4 : ∀ j, ls_dm (fun i => υ 9 (480 * p + i)) (4 * c + s) (i + 1) j = ls_dm (fun i => υ 9 (480 * p + i)) (4 * c + s) i j := fun j => if_pos e
              refine ⟨_, X (bx (ls_fR hm1 9 (by decide)) (bx A (ift (by rw [e, ls_ix4]) (hn _ _)))), M1, τ, by rw [e3], hm1, hs, t8, t10, fun j hj => ?_, fun j h1 => tb j (by omega)⟩
              rw [e3] at hj
              rw [e4]
              exact ta j hj
            · have e3 : ls_dk (fun i => υ 9 (480 * p + i)) (4 * c + s) (i + 1) = ls_dk (fun i => υ 9 (480 * p + i)) (4 * c + s) i + 1 := if_neg e
              have e4 : ∀ j, ls_dm (fun i => υ 9 (480 * p + i)) (4 * c + s) (i + 1) j = if j = ls_dk (fun i => υ 9 (480 * p + i)) (4 * c + s) i then i else ls_dm (fun i => υ 9 (480 * p + i)) (4 * c + s) i j := fun j => if_neg e
              obtain ⟨M2, f2, h2⟩ := ls_tI hm1 9 (480 * p + ls_dk (fun i => υ 9 (480 * p + i)) (4 * c + s) i) (υ 9 (480 * p + i)) (by decide) rfl (show _ < 1920 by omega)
              refine ⟨(M2, nI (ls_dk (fun i => υ 9 (480 * p + i)) (4 * c + s) (i + 1)), nI (i + 1)), X (bx (ls_fR hm1 9 (by decide)) (bx A (iff_ (fun q => e ?_) (bx (ls_fR hm1 9 (by decide)) (bx (ls_fR hm1 9 (by decide)) (bx A (bx (a := M2) (by rw [ls_ix2]; exact f2) ?_))))))), M2, _, rfl, h2, ls_rs_9 hs (by omega) _, t8, t10, fun j hj => ?_, fun j h1 => ?_⟩
              · rw [ls_ix4] at q
                exact (nI_eq (by omega) (by omega)).mp q
              · rw [hn, e3, nI_1]
              · rw [e3] at hj
                rw [mm_u, e4]
                by_cases e5 : j = ls_dk (fun i => υ 9 (480 * p + i)) (4 * c + s) i
                · rw [if_pos ⟨rfl, by rw [e5]⟩, if_pos e5]
                · rw [if_neg (by omega), if_neg e5]
                  exact ta j (by omega)
              · rw [mm_u, if_neg (by omega)]
                exact tb j (by omega)) (by
            rintro y ⟨M1, τ, rfl, hm1, hs, t8, t10, ta, tb⟩
            obtain ⟨M2, f2, h2⟩ := ls_tI hm1 10 p (ls_dk (fun i => υ 9 (480 * p + i)) (4 * c + s) (σ 10 p)) (by decide) rfl hp
            exact ⟨_, bx (ls_fR hm1 10 (by decide)) (bx (ls_aI hm1 10 p (by decide) hp) (ift (show nI (τ 10 p) ≤ nI (σ 10 p) by rw [t10]; exact nI_le (Nat.le_refl _) (by omega)) (mpx (bx (ls_fR hm1 10 (by decide)) (bx f2 rfl))))), M2, _, rfl, h2, ls_rs_10 hs _, t8, by rw [mm_u, if_pos ⟨rfl, rfl⟩], ta⟩)
        have i5 := w1.2.1.2.2.2.2.1 p hp
        have hcl : lc n τ M MA := lc_row w1 hp dA.1 sF O4 (by rw [e30]; exact h120) (by rw [dA.2, i5.1, t8]) (by rw [wA.2.2.2.2.1, t10]) (fun i hi => by rw [t10] at hi; rw [wA.2.2.2.2.2 i hi, t9 i hi])
        refine ⟨_, MA, MF, X (bx (pfI km i12) (ift (by rw [hb]; decide) (bx eP (bx (a := nI (4 * c + s)) (by rw [← ls_ix4]; rfl) (bx (pe_rc (lc_kla w1 np)) (bx eA (bx (pfI wA.1 wA.2.2.2.2.1) rfl))))))), Y hMA (bx (ls_fR hMA 12 (by decide)) (bx (Z hMA) (ift (by rw [hb]; decide) (bx (ls_fR hMA 12 (by decide)) (bx (a := ME) (by rw [ls_ix]; exact eE) hr))))), ls_fin hF hcl (ls_G_row hG1 hp sF (by rw [t8]) ?_)⟩
        rw [t10]
        exact ls_o4_eq (ls_o4_dr (x := 4 * c + s) o4) t9
      · refine ⟨-1, M, M, X (bx (pfI km i12) (iff_ (nI_ne0 (by omega) (by omega)) rfl)), Y hM (bx (ls_fR hM 12 (by decide)) (bx (Z hM) (iff_ (nI_ne0 (by omega) (by omega)) rfl))), ls_no hM hc hG⟩
    · refine ⟨-1, M, M, bx (pe_rc (lc_k0 hc)) (bx (lc_learnerAt hc hp) (bx (pe_rc (lc_k0 hc)) (bx (lc_memoryOut hc O1 (fun q => hs q.2)) (iff_ (fun q => nomatch q) (ift rfl rfl))))), bx (ls_isPupil_in M hp) (iff_ ne10 (bx (ls_rc hM) (bx (ls_isSide_out hM h120 (fun c h => ls_O1s O1 h) hs) (ift rfl rfl)))), ls_no hM hc hG⟩
  · refine ⟨-1, M, M, bx (pe_rc (lc_k0 hc)) (bx (lc_learnerOut hc hx) (bx (pe_rc (lc_k0 hc)) (bx (lc_memoryOut hc O1 (fun q => hx q.1)) (ift rfl rfl)))), bx (ls_isPupil_out M hx) (ift rfl rfl), ls_no hM hc hG⟩
end
