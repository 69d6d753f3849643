section
variable {n k : Nat} {σ τ υ : ls_S} {B M M1 : mm_M}
/-- one or none, as a thing holds -/
def ls_yn (r : Int32) (P : Prop) : Prop := (r = 1 ∧ P) ∨ (r = 0 ∧ ¬ P)
theorem cl_isLike5 (h : lc n σ B M) (h1 : ls_O1 σ) {p c : Nat} (hp : p < 4) (hc : c < σ 3 0) (ok1 : ∀ s, s < σ 0 c → ls_ok (ls_at σ (480 * p + 4 * c + s)) 100000) (ok2 : ∀ s, s < σ 0 c → ls_ok (ls_at σ (480 * 4 + 4 * c + s)) 100000) : ∃ r, f_X5_isLike M (some (lc_hd n M p c)) (some (lc_hd n M 4 c)) = some r ∧ ls_yn r (∀ s, s < σ 0 c → ls_at σ (480 * p + 4 * c + s) = ls_at σ (480 * 4 + 4 * c + s)) := by
  have h4 := (h1.2.1 c hc).2
  have np : p < 5 := by omega
  refine pe_loop (body := fun x : Int32 => f_X5_isLike_2 M (some (lc_hd n M p c)) (some (lc_hd n M 4 c)) x) (x := 0) (fun i x => x = nI i ∧ ∀ s, s < i → ls_at σ (480 * p + 4 * c + s) = ls_at σ (480 * 4 + 4 * c + s)) (fun r => ls_yn r (∀ s, s < σ 0 c → ls_at σ (480 * p + 4 * c + s) = ls_at σ (480 * 4 + 4 * c + s))) (σ 0 c) ⟨rfl, fun s hs => absurd hs (Nat.not_lt_zero s)⟩ ?_
  rintro i x hi ⟨rfl, hs⟩
  by_cases hic : i = σ 0 c
  · exact Or.inr ⟨1, bx (lc_hR h np hc) (bx (lc_hl h np hc) (ift (nI_le (by omega) (by omega)) (mpx rfl))), Or.inl ⟨rfl, by rw [hic] at hs; exact hs⟩⟩
  · have hi2 : i < σ 0 c := by omega
    have e := lc_isLike (lc_at_of h np hc hi2) (lc_at_of h (p := 4) (by omega) hc hi2) (ok1 i hi2) (ok2 i hi2) (by omega) (by omega)
    have X : ∀ {w}, (if (if ls_at σ (480 * p + 4 * c + i) = ls_at σ (480 * 4 + 4 * c + i) then (1 : Int32) else 0) = 0 then mm_mp (f_X5_isLike_34 M) else f_X5_isLike_36 M (some (lc_hd n M p c)) (some (lc_hd n M 4 c)) (nI i)) = w → f_X5_isLike_2 M (some (lc_hd n M p c)) (some (lc_hd n M 4 c)) (nI i) = w := fun q => bx (lc_hR h np hc) (bx (lc_hl h np hc) (iff_ (nI_ge hi2 (by omega)) (bx (lc_hrcd h (p := 4) (by omega) hc) (bx (lc_memAt5 h (p := 4) (by omega) hc hi2 h4) (iff_ (fun q => nomatch q) (bx (lc_hR h np hc) (bx (lc_ha h np hc hi2 h4) (bx (lc_hrc h np hc hi2) (bx e q)))))))))
    by_cases hE : ls_at σ (480 * p + 4 * c + i) = ls_at σ (480 * 4 + 4 * c + i)
    · refine Or.inl ⟨nI (i + 1), X (iff_ (by rw [if_pos hE]; decide) ?_), ⟨rfl, fun s hs2 => ?_⟩, hi2⟩
      · show some (Sum.inl (nI i + 1)) = _
        rw [nI_1]
      · by_cases e2 : s = i
        · rw [e2]; exact hE
        · exact hs s (by omega)
    · exact Or.inr ⟨0, X (ift (if_neg hE) (mpx rfl)), Or.inr ⟨rfl, fun q => hE (q i hi2)⟩⟩
theorem cl_isLike6 (h : lc n σ B M) (h1 : ls_O1 σ) {p : Nat} (hp : p < 4) (ok1 : ∀ c, c < σ 3 0 → ∀ s, s < σ 0 c → ls_ok (ls_at σ (480 * p + 4 * c + s)) 100000) (ok2 : ∀ c, c < σ 3 0 → ∀ s, s < σ 0 c → ls_ok (ls_at σ (480 * 4 + 4 * c + s)) 100000) : ∃ r, f_X6_isLike M (some (n + lc_lo p)) (some (n + 8)) = some r ∧ ls_yn r (∀ c, c < σ 3 0 → ∀ s, s < σ 0 c → ls_at σ (480 * p + 4 * c + s) = ls_at σ (480 * 4 + 4 * c + s)) := by
  have h120 := h1.1
  have np : p < 5 := by omega
  refine pe_loop (body := fun x : Int32 => f_X6_isLike_2 M (some (n + lc_lo p)) (some (n + 8)) x) (x := 0) (fun i x => x = nI i ∧ ∀ c, c < i → ∀ s, s < σ 0 c → ls_at σ (480 * p + 4 * c + s) = ls_at σ (480 * 4 + 4 * c + s)) (fun r => ls_yn r (∀ c, c < σ 3 0 → ∀ s, s < σ 0 c → ls_at σ (480 * p + 4 * c + s) = ls_at σ (480 * 4 + 4 * c + s))) (σ 3 0) ⟨rfl, fun s hs => absurd hs (Nat.not_lt_zero s)⟩ ?_
  rintro i x hi ⟨rfl, hs⟩
  by_cases hic : i = σ 3 0
  · exact Or.inr ⟨1, bx (lc_lR h np) (bx (lc_lrc h np) (bx (lc_lsz h np) (ift (nI_le (by omega) (by omega)) (mpx rfl)))), Or.inl ⟨rfl, by rw [hic] at hs; exact hs⟩⟩
  · have hi2 : i < σ 3 0 := by omega
    obtain ⟨r, e, hr⟩ := cl_isLike5 h h1 hp hi2 (ok1 i hi2) (ok2 i hi2)
    have X : ∀ {w}, (if r = 0 then mm_mp (f_X6_isLike_41 M) else f_X6_isLike_43 M (some (n + lc_lo p)) (some (n + 8)) (nI i)) = w → f_X6_isLike_2 M (some (n + lc_lo p)) (some (n + 8)) (nI i) = w := fun q => bx (lc_lR h np) (bx (lc_lrc h np) (bx (lc_lsz h np) (iff_ (nI_ge hi2 (by omega)) (bx (pe_rc (lc_kla h (p := 4) (by omega))) (bx (lc_handAt h h120 (p := 4) (by omega) hi2) (iff_ (fun q => nomatch q) (bx (lc_lR h np) (bx (lc_lrc h np) (bx (lc_lget h h120 np hi2) (bx (lc_hcc h np hi2) (bx (lc_hrcd h np hi2) (bx e q))))))))))))
    rcases hr with ⟨rfl, hE⟩ | ⟨rfl, hE⟩
    · refine Or.inl ⟨nI (i + 1), X (iff_ ne10 ?_), ⟨rfl, fun c hc2 => ?_⟩, hi2⟩
      · show some (Sum.inl (nI i + 1)) = _
        rw [nI_1]
      · by_cases e2 : c = i
        · rw [e2]; exact hE
        · exact hs c (by omega)
    · exact Or.inr ⟨0, X (ift rfl (mpx rfl)), Or.inr ⟨rfl, fun q => hE (q i hi2)⟩⟩
theorem ls_chk (hm : ls_M n τ B M) {q : Nat} {z : Int32} (hq : q < 1920) (ok1 : ls_ok (ls_sc τ) 100000) (ok2 : ls_ok (ls_at τ q) 100000) {r : Option ((mm_M × Int32 × Int32) ⊕ (Int32 × mm_M))} (y1 : ls_sc τ = ls_at τ q → f_X10_check_105 M (some (n + 31)) z (nI q) = r) (y0 : ¬ ls_sc τ = ls_at τ q → f_X10_check_109 M (some (n + 31)) z (nI q) = r) : ((mm_fI M (some (n + 31)) 11 29).bind fun x41 => (mm_fR M (some (n + 31)) 11 13).bind fun x45 => (mm_aI M x45 12 (nI q)).bind fun x49 => if x41 = x49 then f_X10_check_53 M (some (n + 31)) z (nI q) else f_X10_check_109 M (some (n + 31)) z (nI q)) = r := by
  obtain ⟨k1, k2, k3, k4, k5, k6, k7⟩ := ok1
  obtain ⟨l1, l2, l3, l4, l5, l6, l7⟩ := ok2
  have k2 : τ 29 0 ≤ 4000000 := k2
  have k4 : τ 30 0 ≤ 3500 := k4
  have k5 : τ 31 0 ≤ 9 := k5
  have k6 : τ 32 0 ≤ 100000 + 1 := k6
  have k7 : τ 33 0 ≤ 100000 := k7
  have l2 : τ 13 q ≤ 4000000 := l2
  have l4 : τ 14 q ≤ 3500 := l4
  have l5 : τ 15 q ≤ 9 := l5
  have l6 : τ 16 q ≤ 100000 + 1 := l6
  have l7 : τ 17 q ≤ 100000 := l7
  have no : ∀ (g : ls_V → Nat), g (ls_sc τ) ≠ g (ls_at τ q) → f_X10_check_109 M (some (n + 31)) z (nI q) = r := fun g hg => y0 (fun e => hg (by rw [e]))
  have N : ∀ {a b : Nat}, a ≤ 4000000 → b ≤ 4000000 → a ≠ b → ¬ nI a = nI b := fun ha hb hne e => hne ((nI_eq (by omega) (by omega)).mp e)
  refine bx (ls_fI hm 29 (by decide)) (bx (ls_fR hm 13 (by decide)) (bx (ls_aI hm 13 q (by decide) hq) ?_))
  by_cases c1 : τ 29 0 = τ 13 q
  · refine ift (show nI (τ 29 0) = nI (τ 13 q) by rw [c1]) (bx (ls_fI hm 30 (by decide)) (bx (ls_fR hm 14 (by decide)) (bx (ls_aI hm 14 q (by decide) hq) ?_)))
    by_cases c2 : τ 30 0 = τ 14 q
    · refine ift (show nI (τ 30 0) = nI (τ 14 q) by rw [c2]) (bx (ls_fI hm 31 (by decide)) (bx (ls_fR hm 15 (by decide)) (bx (ls_aI hm 15 q (by decide) hq) ?_)))
      by_cases c3 : τ 31 0 = τ 15 q
      · refine ift (show nI (τ 31 0) = nI (τ 15 q) by rw [c3]) (bx (ls_fI hm 32 (by decide)) (bx (ls_fR hm 16 (by decide)) (bx (ls_aI hm 16 q (by decide) hq) ?_)))
        by_cases c4 : τ 32 0 = τ 16 q
        · refine ift (show nI (τ 32 0) - 1 = nI (τ 16 q) - 1 by rw [c4]) (bx (ls_fI hm 33 (by decide)) (bx (ls_fR hm 17 (by decide)) (bx (ls_aI hm 17 q (by decide) hq) ?_)))
          by_cases c5 : τ 33 0 = τ 17 q
          · exact ift (show nI (τ 33 0) = nI (τ 17 q) by rw [c5]) (y1 (by unfold ls_sc ls_at; rw [c1, c2, c3, c4, c5]))
          · exact iff_ (show ¬ nI (τ 33 0) = nI (τ 17 q) from N (by omega) (by omega) c5) (no (fun v => v.2.2.2.2) c5)
        · refine iff_ (show ¬ nI (τ 32 0) - 1 = nI (τ 16 q) - 1 from fun e => N (by omega) (by omega) c4 ?_) (no (fun v => v.2.2.2.1) c4)
          exact (Int32.sub_add_cancel _ _).symm.trans ((congrArg (fun x => x + 1) e).trans (Int32.sub_add_cancel _ _))
      · exact iff_ (show ¬ nI (τ 31 0) = nI (τ 15 q) from N (by omega) (by omega) c3) (no (fun v => v.2.2.1) c3)
    · exact iff_ (show ¬ nI (τ 30 0) = nI (τ 14 q) from N (by omega) (by omega) c2) (no (fun v => v.2.1) c2)
  · exact iff_ (show ¬ nI (τ 29 0) = nI (τ 13 q) from N (by omega) (by omega) c1) (no (fun v => v.1) c1)
theorem ls_rp_none {ρ a : Nat} : ∀ {N : Nat}, (∀ i, i < N → σ 18 i ≠ a) → ls_rp σ ρ a N = ls_z0
  | 0, _ => rfl
  | N + 1, h => by
    unfold ls_rp
    rw [if_neg (h N (by omega))]
    exact ls_rp_none (fun i hi => h i (by omega))
/-- whether a memory is what the log makes of it -/
abbrev ls_Eq (σ : ls_S) (p q : Nat) : Prop := ls_rp σ 3 (480 * p + q) (σ 28 0) = ls_at σ (480 * p + q)
theorem ls_rp_ok1 (hG : ls_G k σ) (hk : k ≤ 512) (ρ a : Nat) : ls_ok (ls_rp σ ρ a (σ 28 0)) 100000 := (ls_rp_ok hG.2.2.2.2.1 hk (ρ := ρ) (a := a) (σ 28 0) (Nat.le_refl _)).2 100000 (fun j hj _ => ls_day_b hG.2.2.2.2.1 hG.2.1 hj)
theorem ls_at_ok1 (hG : ls_G k σ) {p q : Nat} (hp : p < 4) (hq : q < 480) : ls_ok (ls_at σ (480 * p + q)) 100000 := ls_ok_up (hG.2.2.1 p hp q hq) (hG.2.1.2.2.2.2 p hp)
theorem ls_Eq_all (hG : ls_G k σ) {p : Nat} (hp : p < 4) : (∀ c, c < σ 3 0 → ∀ s, s < σ 0 c → ls_Eq σ p (4 * c + s)) ↔ ∀ q, q < 480 → ls_Eq σ p q := by
  have O1 := hG.1
  have h120 := O1.1
  refine ⟨fun h q hq => ?_, fun h c hc s hs => h _ (by have := (O1.2.1 c hc).2; omega)⟩
  by_cases hpl : ls_pl σ q
  · have := h _ hpl.1 _ hpl.2
    rwa [show 4 * (q / 4) + q % 4 = q by omega] at this
  · have e := (hG.2.2.2.2.2.2.2 p hp q hq).2 hpl
    show ls_rp σ 3 (480 * p + q) (σ 28 0) = _
    rw [e.1, ls_rp_none (fun i hi e2 => ?_)]
    · rfl
    · have := (hG.2.2.2.2.1.2 i hi).2.1
      rw [e2, show (480 * p + q) % 480 = q by omega] at this
      exact hpl this
theorem ls_ix6 (p : Nat) : (nI p + 1) * 480 = nI (480 * p + 480) := by
  rw [nI_1, show nI (p + 1) * 480 = nI ((p + 1) * 480) from pk_mul _ 480]
  congr 1; omega
theorem ls_check (h : ls_M n σ B M) (hG : ls_G k σ) (hk : k ≤ 512) {p : Nat} (hp : p < 4) : ∃ r M1 τ, f_X10_check_9 M (some (n + 31)) (nI p) = some (r, M1) ∧ ls_M n τ B M1 ∧ ls_v σ τ ∧ ls_yn r (∀ q, q < 480 → ls_Eq σ p q) := by
  obtain ⟨y, hy, M1, τ, r, rfl, hm, hv, hr⟩ := pe_loop (body := fun x : mm_M × Int32 × Int32 => f_X10_check_17 x.1 (some (n + 31)) (nI p) x.2.1 x.2.2) (x := (M, 1, nI p * 480))
    (fun i x => ∃ M1 τ v, x = (M1, v, nI (480 * p + i)) ∧ ls_M n τ B M1 ∧ ls_v σ τ ∧ ((v = 1 ∧ ∀ q, q < i → ls_Eq σ p q) ∨ (v = 0 ∧ ¬ ∀ q, q < 480 → ls_Eq σ p q)))
    (fun y => ∃ M1 τ r, y = (r, M1) ∧ ls_M n τ B M1 ∧ ls_v σ τ ∧ ls_yn r (∀ q, q < 480 → ls_Eq σ p q)) 480 ⟨M, σ, 1, by rw [ls_ix1]; rfl, h, ls_v_rf σ, Or.inl ⟨rfl, fun q hq => absurd hq (Nat.not_lt_zero q)⟩⟩ (by
      rintro i x hi ⟨M1, τ, v, rfl, hm, hv, hd⟩
      have out : ∀ {w}, i = 480 → mm_mp (f_X10_check_117 M1 v) = w → f_X10_check_17 M1 (some (n + 31)) (nI p) v (nI (480 * p + i)) = w := fun hi q => ift (by rw [ls_ix6, hi]; exact nI_le (Nat.le_refl _) (by omega)) q
      have inn : ∀ {w}, i < 480 → f_X10_check_28 M1 (some (n + 31)) (nI p) v (nI (480 * p + i)) = w → f_X10_check_17 M1 (some (n + 31)) (nI p) v (nI (480 * p + i)) = w := fun hi q => iff_ (by rw [ls_ix6]; exact nI_ge (by omega) (by omega)) q
      rcases hd with ⟨rfl, hd⟩ | ⟨rfl, hd⟩
      · by_cases hi2 : i = 480
        · exact Or.inr ⟨_, out hi2 (mpx (iff_ ne10 rfl)), M1, τ, 1, rfl, hm, hv, Or.inl ⟨rfl, by rw [hi2] at hd; exact hd⟩⟩
        · have hi3 : i < 480 := by omega
          obtain ⟨M2, τ2, f2, hm2, hv2, hc2⟩ := ls_replay hm (ls_G_v hG hv) hk (a := 480 * p + i) (ρ := 3) (by omega) (Or.inr ⟨rfl, rfl⟩)
          rw [ls_rp_c (ls_lg_v hv), ls_28_c (ls_lg_v hv)] at hc2
          have v3 := ls_v_tr hv hv2
          have ea : ls_at τ2 (480 * p + i) = ls_at σ (480 * p + i) := ls_v_at v3 _
          have hn : ∀ u : Int32, f_X10_check_110 M2 (some (n + 31)) (nI p) (nI (480 * p + i)) u = some (.inl (M2, u, nI (480 * p + (i + 1)))) := fun u => by
            show some (Sum.inl (M2, u, nI (480 * p + i) + 1)) = _
            rw [nI_1]
            rfl
          have X : ∀ {w}, (ls_sc τ2 = ls_at τ2 (480 * p + i) → f_X10_check_105 M2 (some (n + 31)) (nI p) (nI (480 * p + i)) = w) → (¬ ls_sc τ2 = ls_at τ2 (480 * p + i) → f_X10_check_109 M2 (some (n + 31)) (nI p) (nI (480 * p + i)) = w) → f_X10_check_17 M1 (some (n + 31)) (nI p) 1 (nI (480 * p + i)) = w := fun y1 y0 => inn hi3 (iff_ ne10 (bx (ls_rc hm) (b2x f2 (ls_chk hm2 (by omega) (by rw [hc2]; exact ls_rp_ok1 hG hk _ _) (by rw [ea]; exact ls_at_ok1 hG hp hi3) y1 y0))))
          by_cases hE : ls_Eq σ p i
          · refine Or.inl ⟨(M2, 1, nI (480 * p + (i + 1))), X (fun _ => hn 1) (fun q => absurd ?_ q), ⟨M2, τ2, 1, rfl, hm2, v3, Or.inl ⟨rfl, fun q hq => ?_⟩⟩, hi3⟩
            · rw [hc2, ea]; exact hE
            · by_cases e2 : q = i
              · rw [e2]; exact hE
              · exact hd q (by omega)
          · refine Or.inl ⟨(M2, 0, nI (480 * p + (i + 1))), X (fun q => absurd ?_ hE) (fun _ => hn 0), ⟨M2, τ2, 0, rfl, hm2, v3, Or.inr ⟨rfl, fun q => hE (q i hi3)⟩⟩, hi3⟩
            rw [hc2, ea] at q; exact q
      · have fin : f_X10_check_117 M1 0 = some (0, M1) := ift rfl rfl
        by_cases hi2 : i = 480
        · exact Or.inr ⟨_, out hi2 (mpx fin), M1, τ, 0, rfl, hm, hv, Or.inr ⟨rfl, hd⟩⟩
        · exact Or.inr ⟨_, inn (by omega) (ift rfl (mpx fin)), M1, τ, 0, rfl, hm, hv, Or.inr ⟨rfl, hd⟩⟩)
  exact ⟨r, M1, τ, hy, hm, hv, hr⟩
theorem ls_yn_eq {r s : Int32} {P Q : Prop} (h : ls_yn r P) (h2 : ls_yn s Q) (e : P ↔ Q) : r = s := by
  rcases h with ⟨rfl, a⟩ | ⟨rfl, a⟩
  · rcases h2 with ⟨rfl, b⟩ | ⟨rfl, b⟩
    · rfl
    · exact absurd (e.mp a) b
  · rcases h2 with ⟨rfl, b⟩ | ⟨rfl, b⟩
    · exact absurd (e.mpr b) a
    · rfl
theorem ca_check (hM : ls_M n σ M M) (hc : lc n σ M M) (hG : ls_G k σ) (hk : k ≤ 512) (x : Int32) : ls_cc n k M (fun M => f_X9_check M (some n) x) (fun M => f_X10_check M (some (n + 31)) x) := by
  have O1 := hG.1
  rcases pe_pupil x with ⟨p, hp, rfl⟩ | hx
  · obtain ⟨M1, f1, ⟨τ, hs, hl, hm⟩, sk⟩ := cl_retell (lc_sh_of hc) hG hk hp (ρ := 3) (by omega) (z := 3) rfl
    obtain ⟨hM1, hG1⟩ := ls_sh2 hM hG hs hl
    have e3 : τ 3 0 = σ 3 0 := by rw [ls_s_f hs (f := 3) (by omega)]
    have e0 : τ 0 = σ 0 := ls_s_f hs (by omega)
    have h120 := O1.1
    have ea : ∀ c, c < σ 3 0 → ∀ s, s < σ 0 c → ls_at τ (480 * p + 4 * c + s) = ls_at σ (480 * p + (4 * c + s)) := fun c hc1 s hs1 => by
      have h4 := (O1.2.1 c hc1).2
      rw [Nat.add_assoc]
      exact ls_s_at hs (by omega)
    obtain ⟨r, f3, y3⟩ := cl_isLike6 hl (ls_s_O1 hs O1) hp (by
      rw [e3, e0]
      intro c hc1 s hs1
      have h4 := (O1.2.1 c hc1).2
      rw [ea c hc1 s hs1]
      exact ls_at_ok1 hG hp (by omega)) (by
      rw [e3, e0]
      intro c hc1 s hs1
      rw [hm c hc1 s hs1]
      exact ls_rp_ok1 hG hk _ _)
    rw [e3, e0] at y3
    obtain ⟨r2, M2, υ, f2, hM2, hv2, y2⟩ := ls_check hM1 hG1 hk hp
    have er : r = r2 := ls_yn_eq y3 y2 (by
      refine Iff.trans ⟨fun h c hc1 s hs1 => ?_, fun h c hc1 s hs1 => ?_⟩ ((ls_Eq_all hG hp).trans ?_)
      · have := h c hc1 s hs1
        rw [ea c hc1 s hs1, hm c hc1 s hs1] at this
        exact this.symm
      · rw [ea c hc1 s hs1, hm c hc1 s hs1]
        exact (h c hc1 s hs1).symm
      · have eE : ∀ q, q < 480 → (ls_Eq σ p q ↔ ls_Eq τ p q) := fun q hq => by
          unfold ls_Eq
          rw [ls_rp_c (ls_lg_s hs), ls_28_c (ls_lg_s hs), ls_s_at hs (q := 480 * p + q) (by omega)]
        exact ⟨fun h q hq => (eE q hq).mp (h q hq), fun h q hq => (eE q hq).mpr (h q hq)⟩)
    subst er
    refine ⟨r, M1, M2, bx (pe_rc (lc_k0 hc)) (bx (lc_learnerAt hc hp) (iff_ (fun q => nomatch q) (bx (pe_rc (lc_k0 hc)) (b2x f1 (bx (lc_r0 hl 3 8 (by decide)) (bx (pe_rc (lc_kla hl (p := p) (by omega))) (bx f3 ?_))))))), bx (ls_isPupil_in M1 hp) (iff_ ne10 f2), ls_fin hM2 (lc_σ hl hv2) (ls_G_v hG1 hv2)⟩
    rcases y3 with ⟨rfl, -⟩ | ⟨rfl, -⟩
    · exact iff_ ne10 rfl
    · exact ift rfl rfl
  · exact ⟨-1, M, M, bx (pe_rc (lc_k0 hc)) (bx (lc_learnerOut hc hx) (ift rfl rfl)), bx (ls_isPupil_out M hx) (ift rfl rfl), ls_no hM hc hG⟩
end
