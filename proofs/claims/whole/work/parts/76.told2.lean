section
variable {n k : Nat} {σ τ : ls_S} {B M M1 : mm_M}
theorem ls_greatest (h : ls_M n τ B M) (hs : 1 ≤ τ 40 0 ∧ τ 40 0 ≤ 499 ∧ 1 ≤ τ 41 0 ∧ τ 41 0 ≤ 499) (h8 : τ 39 0 ≤ 8) (hw : ∀ l, l < τ 39 0 → τ 38 l ≤ 999 ^ 5) {q r : Nat} (hq : q < 2 ^ 30) {z : Int32} (hz : z = nI r) (hr : r ≤ 1) : f_X10_greatest M (some (n + 31)) (nI q) z = some (lN (ls_gb (τ 38) (τ 40 0) (τ 41 0) q r (τ 39 0))) := by
  have hb : ∀ l, l < τ 39 0 → τ 38 l * ls_fa (τ 40 0) (τ 41 0) l q r ≤ 999 ^ 5 * 999 := fun l hl => Nat.mul_le_mul (hw l hl) (ls_fa_b hs l q r).2
  have h63 : (999 : Nat) ^ 5 * 999 < 2 ^ 63 := by decide
  have s1 : (1000 : Int32) - nI (τ 40 0) = nI (1000 - τ 40 0) := pk_sub (a := 1000) (by omega)
  have s2 : (1000 : Int32) - nI (τ 41 0) = nI (1000 - τ 41 0) := pk_sub (a := 1000) (by omega)
  refine pe_for (body := fun x : Int64 × Int32 => f_X10_greatest_5 M (some (n + 31)) (nI q) z x.1 x.2) (fun i => (lN (ls_gb (τ 38) (τ 40 0) (τ 41 0) q r i), nI i)) (τ 39 0) (fun i hi => ?_) ?_
  · have hfa := ls_fa_b hs i q r
    have hm : lN (τ 38 i) * (nI (ls_fa (τ 40 0) (τ 41 0) i q r)).toInt64 = lN (τ 38 i * ls_fa (τ 40 0) (τ 41 0) i q r) := by rw [nI_l (by omega), lN_mul]
    have hg : ls_gb (τ 38) (τ 40 0) (τ 41 0) q r i ≤ 999 ^ 5 * 999 := ls_mx_le (f := fun l => τ 38 l * ls_fa (τ 40 0) (τ 41 0) l q r) (b := 999 ^ 5 * 999) (i := i) (fun l hl => hb l (by omega))
    have hbi := hb i hi
    have hstep : ls_gb (τ 38) (τ 40 0) (τ 41 0) q r (i + 1) = if ls_gb (τ 38) (τ 40 0) (τ 41 0) q r i < τ 38 i * ls_fa (τ 40 0) (τ 41 0) i q r then τ 38 i * ls_fa (τ 40 0) (τ 41 0) i q r else ls_gb (τ 38) (τ 40 0) (τ 41 0) q r i := rfl
    have fin : f_X10_greatest_68 M (some (n + 31)) (nI q) z (lN (ls_gb (τ 38) (τ 40 0) (τ 41 0) q r i)) (nI i) (lN (τ 38 i)) (nI (ls_fa (τ 40 0) (τ 41 0) i q r)) = some (.inl (lN (ls_gb (τ 38) (τ 40 0) (τ 41 0) q r (i + 1)), nI (i + 1))) := by
      have hn : ∀ s0, f_X10_greatest_85 M (some (n + 31)) (nI q) z (nI i) s0 = some (.inl (s0, nI (i + 1))) := fun s0 => by
        show some (Sum.inl (s0, nI i + 1)) = _
        rw [nI_1]
      rw [hstep]
      by_cases c : ls_gb (τ 38) (τ 40 0) (τ 41 0) q r i < τ 38 i * ls_fa (τ 40 0) (τ 41 0) i q r
      · rw [if_pos c]
        refine iff_ (fun z => ?_) ?_
        · rw [hm] at z
          have := (pk_lLE (by omega) (by omega)).mp ((lg_le _ _).mp z)
          omega
        · show f_X10_greatest_85 M (some (n + 31)) (nI q) z (nI i) (lN (τ 38 i) * (nI (ls_fa (τ 40 0) (τ 41 0) i q r)).toInt64) = _
          rw [hm]
          exact hn _
      · rw [if_neg c]
        refine ift ?_ (hn _)
        rw [hm]
        exact (lg_le _ _).mpr ((pk_lLE (by omega) (by omega)).mpr (by omega))
    refine bx (ls_fI h 39 (by decide)) (iff_ (show ¬ nI (τ 39 0) ≤ nI i from nI_ge hi (by omega)) (bx (ls_fL h) (bx (ls_aL h (show i < 8 by omega)) ?_)))
    unfold ls_fa at fin
    by_cases c1 : i < q
    · rw [if_pos c1] at fin
      refine ift (nI_lt c1 (by omega)) ?_
      by_cases c2 : r = 0
      · rw [if_pos c2] at fin
        exact ift (by rw [hz, c2]; rfl) (bx (ls_fI h 41 (by decide)) (by show f_X10_greatest_68 M _ _ _ _ _ _ ((1000 : Int32) - nI (τ 41 0)) = _; rw [s2]; exact fin))
      · rw [if_neg c2] at fin
        exact iff_ (by rw [hz]; exact nI_ne0 (by omega) (by omega)) (bx (ls_fI h 41 (by decide)) fin)
    · rw [if_neg c1] at fin
      refine iff_ (nI_nlt (by omega) (by omega)) ?_
      by_cases c2 : r = 0
      · rw [if_pos c2] at fin
        exact ift (by rw [hz, c2]; rfl) (bx (ls_fI h 40 (by decide)) fin)
      · rw [if_neg c2] at fin
        exact iff_ (by rw [hz]; exact nI_ne0 (by omega) (by omega)) (bx (ls_fI h 40 (by decide)) (by show f_X10_greatest_68 M _ _ _ _ _ _ ((1000 : Int32) - nI (τ 40 0)) = _; rw [s1]; exact fin))
  · exact bx (ls_fI h 39 (by decide)) (ift (show nI (τ 39 0) ≤ nI (τ 39 0) from nI_le (Nat.le_refl _) (by omega)) (mpx rfl))
theorem ls_bestQ (h : ls_M n τ B M) (hs : 1 ≤ τ 40 0 ∧ τ 40 0 ≤ 499 ∧ 1 ≤ τ 41 0 ∧ τ 41 0 ≤ 499) (h8 : τ 39 0 ≤ 8) (h2 : 2 ≤ τ 39 0) (hw : ∀ l, l < τ 39 0 → 1 ≤ τ 38 l ∧ τ 38 l ≤ 999 ^ 5) : f_X10_bestQuestion M (some (n + 31)) = some (nI (ls_bq (τ 38) (τ 40 0) (τ 41 0) (τ 39 0) (τ 39 0))) := by
  have hbo := ls_bo_b hs hw (show 1 ≤ τ 39 0 by omega)
  have h63 : (999 : Nat) ^ 5 * 999 + 999 ^ 5 * 999 < 2 ^ 63 := by decide
  have hw2 : ∀ l, l < τ 39 0 → τ 38 l ≤ 999 ^ 5 := fun l hl => (hw l hl).2
  refine Eq.trans (show f_X10_bestQuestion M (some (n + 31)) = mm_w (fun x : Int32 × Int32 => f_X10_bestQuestion_4 M (some (n + 31)) x.1 x.2) (nI (ls_bq (τ 38) (τ 40 0) (τ 41 0) (τ 39 0) 2), nI 2) by rw [show ls_bq (τ 38) (τ 40 0) (τ 41 0) (τ 39 0) 2 = 1 from if_pos (Nat.le_refl _)]; rfl) ?_
  refine pe_for2 (body := fun x : Int32 × Int32 => f_X10_bestQuestion_4 M (some (n + 31)) x.1 x.2) (fun i => (nI (ls_bq (τ 38) (τ 40 0) (τ 41 0) (τ 39 0) i), nI i)) 2 (τ 39 0) h2 (fun i h1 hi => ?_) ?_
  · have hb := ls_bq_b (τ 38) (τ 40 0) (τ 41 0) (τ 39 0) i h1
    have hbi := hbo i
    have hbb := hbo (ls_bq (τ 38) (τ 40 0) (τ 41 0) (τ 39 0) i)
    have hstep : ls_bq (τ 38) (τ 40 0) (τ 41 0) (τ 39 0) (i + 1) = if ls_bo (τ 38) (τ 40 0) (τ 41 0) (τ 39 0) (ls_bq (τ 38) (τ 40 0) (τ 41 0) (τ 39 0) i) < ls_bo (τ 38) (τ 40 0) (τ 41 0) (τ 39 0) i then i else ls_bq (τ 38) (τ 40 0) (τ 41 0) (τ 39 0) i := if_neg (by omega)
    refine bx (ls_fI h 39 (by decide)) (iff_ (show ¬ nI (τ 39 0) ≤ nI i from nI_ge hi (by omega)) (bx (ls_rc h) (bx (ls_greatest h hs h8 hw2 (q := i) (r := 1) (by omega) rfl (by omega)) (bx (ls_rc h) (bx (ls_greatest h hs h8 hw2 (q := i) (r := 0) (by omega) rfl (by omega)) (bx (ls_rc h) (bx (ls_greatest h hs h8 hw2 (q := ls_bq (τ 38) (τ 40 0) (τ 41 0) (τ 39 0) i) (r := 1) (by omega) rfl (by omega)) (bx (ls_rc h) (bx (ls_greatest h hs h8 hw2 (q := ls_bq (τ 38) (τ 40 0) (τ 41 0) (τ 39 0) i) (r := 0) (by omega) rfl (by omega)) ?_)))))))))
    have hn : ∀ u, f_X10_bestQuestion_47 M (some (n + 31)) (nI i) u = some (.inl (u, nI (i + 1))) := fun u => by
      show some (Sum.inl (u, nI i + 1)) = _
      rw [nI_1]
    rw [lN_add, lN_add]
    show _ = some (Sum.inl (nI (ls_bq (τ 38) (τ 40 0) (τ 41 0) (τ 39 0) (i + 1)), nI (i + 1)))
    rw [hstep]
    by_cases c : ls_bo (τ 38) (τ 40 0) (τ 41 0) (τ 39 0) (ls_bq (τ 38) (τ 40 0) (τ 41 0) (τ 39 0) i) < ls_bo (τ 38) (τ 40 0) (τ 41 0) (τ 39 0) i
    · rw [if_pos c]
      exact iff_ (fun q => by
        have := (pk_lLE (a := ls_bo (τ 38) (τ 40 0) (τ 41 0) (τ 39 0) i) (b := ls_bo (τ 38) (τ 40 0) (τ 41 0) (τ 39 0) (ls_bq (τ 38) (τ 40 0) (τ 41 0) (τ 39 0) i)) (by omega) (by omega)).mp ((lg_le _ _).mp q)
        omega) (hn _)
    · rw [if_neg c]
      exact ift ((lg_le _ _).mpr ((pk_lLE (a := ls_bo (τ 38) (τ 40 0) (τ 41 0) (τ 39 0) i) (b := ls_bo (τ 38) (τ 40 0) (τ 41 0) (τ 39 0) (ls_bq (τ 38) (τ 40 0) (τ 41 0) (τ 39 0) i)) (by omega) (by omega)).mpr (by omega))) (hn _)
  · exact bx (ls_fI h 39 (by decide)) (ift (show nI (τ 39 0) ≤ nI (τ 39 0) from nI_le (Nat.le_refl _) (by omega)) (mpx rfl))
theorem ls_bq_cg {w v : Nat → Nat} {sl gu n : Nat} (h : ∀ l, l < n → w l = v l) (i : Nat) : ls_bq w sl gu n i = ls_bq v sl gu n i := by
  have hb : ∀ q, ls_bo w sl gu n q = ls_bo v sl gu n q := fun q => by
    show ls_mx _ n + ls_mx _ n = ls_mx _ n + ls_mx _ n
    rw [ls_mx_cg (f := fun l => w l * ls_fa sl gu l q 1) (g := fun l => v l * ls_fa sl gu l q 1) (fun l hl => by rw [h l hl]), ls_mx_cg (f := fun l => w l * ls_fa sl gu l q 0) (g := fun l => v l * ls_fa sl gu l q 0) (fun l hl => by rw [h l hl])]
  induction i with
  | zero => rfl
  | succ i ih =>
    unfold ls_bq
    rw [ih, hb, hb]
/-- what hearing an answer makes of the model -/
theorem ls_toldM (h : ls_M n σ B M) (hs : 1 ≤ σ 40 0 ∧ σ 40 0 ≤ 499 ∧ 1 ≤ σ 41 0 ∧ σ 41 0 ≤ 499) (h8 : σ 39 0 ≤ 8) (h2 : 2 ≤ σ 39 0) (has : σ 42 0 ≤ 5) (hw : ∀ l, l < σ 39 0 → 1 ≤ σ 38 l ∧ σ 38 l ≤ 999 ^ σ 42 0) {q r : Nat} (hq : q < 2 ^ 30) {z : Int32} (hz : z = nI r) (hr : r ≤ 1) : ∃ M1 τ, f_X10_told_35 M (some (n + 31)) (nI q) z = some (if ls_ov (σ 42 0 + 1) (σ 39 0) (ls_w2 (σ 38) (σ 40 0) (σ 41 0) (σ 39 0) q r) = 0 then nI (ls_bq (ls_w2 (σ 38) (σ 40 0) (σ 41 0) (σ 39 0) q r) (σ 40 0) (σ 41 0) (σ 39 0) (σ 39 0)) else 0, M1) ∧ ls_M n τ B M1 ∧ (∀ f, f ≠ 38 → f ≠ 42 → f ≠ 43 → τ f = σ f) ∧ τ 42 0 = σ 42 0 + 1 ∧ τ 43 0 = ls_ov (σ 42 0 + 1) (σ 39 0) (ls_w2 (σ 38) (σ 40 0) (σ 41 0) (σ 39 0) q r) ∧ ∀ l, l < σ 39 0 → τ 38 l = ls_w2 (σ 38) (σ 40 0) (σ 41 0) (σ 39 0) q r l := by
  have b1 := ls_w1_b hs hw q r
  have b2 := ls_w2_b hs hw q r
  have h6 : (999 : Nat) ^ (σ 42 0 + 1) ≤ 999 ^ 6 := Nat.pow_le_pow_right (by omega) (by omega)
  have h63 : (8 : Nat) * 999 ^ 6 < 2 ^ 63 := by decide
  have gle : ∀ i, i ≤ σ 39 0 → ls_gd (ls_w1 (σ 38) (σ 40 0) (σ 41 0) q r) i ≤ 999 ^ (σ 42 0 + 1) := fun i hi => ls_gd_le (fun _ _ => trivial) (fun l hl => b1 l (by omega))
  have s1 : (1000 : Int32) - nI (σ 40 0) = nI (1000 - σ 40 0) := pk_sub (a := 1000) (by omega)
  have s2 : (1000 : Int32) - nI (σ 41 0) = nI (1000 - σ 41 0) := pk_sub (a := 1000) (by omega)
  generalize hW1 : ls_w1 (σ 38) (σ 40 0) (σ 41 0) q r = w1 at *
  have eW2 : ls_w2 (σ 38) (σ 40 0) (σ 41 0) (σ 39 0) q r = fun l => w1 l / ls_gd w1 (σ 39 0) := by
    funext l
    show ls_w1 (σ 38) (σ 40 0) (σ 41 0) q r l / ls_gd (ls_w1 (σ 38) (σ 40 0) (σ 41 0) q r) (σ 39 0) = _
    rw [hW1]
  generalize hW2 : ls_w2 (σ 38) (σ 40 0) (σ 41 0) (σ 39 0) q r = w2 at *
  have eW1 : ∀ l, w1 l = σ 38 l * ls_fa (σ 40 0) (σ 41 0) l q r := fun l => (congrFun hW1 l).symm
  obtain ⟨y, hy, M1, τ, rfl, hQ⟩ := pe_cnt (body := fun x : mm_M × Int64 × Int32 => f_X10_told_40 x.1 (some (n + 31)) (nI q) z x.2.1 x.2.2) (x := (M, 0, 0)) (fun i x => ∃ M1 τ, x = (M1, lN (ls_gd w1 i), nI i) ∧ ls_M n τ B M1 ∧ (∀ f, f ≠ 38 → τ f = σ f) ∧ ∀ l, l < σ 39 0 → τ 38 l = if l < i then w1 l else σ 38 l) (fun y => ∃ M1 τ, y = (if ls_ov (σ 42 0 + 1) (σ 39 0) w2 = 0 then nI (ls_bq w2 (σ 40 0) (σ 41 0) (σ 39 0) (σ 39 0)) else 0, M1) ∧ ls_M n τ B M1 ∧ (∀ f, f ≠ 38 → f ≠ 42 → f ≠ 43 → τ f = σ f) ∧ τ 42 0 = σ 42 0 + 1 ∧ τ 43 0 = ls_ov (σ 42 0 + 1) (σ 39 0) w2 ∧ ∀ l, l < σ 39 0 → τ 38 l = w2 l) (σ 39 0) ⟨M, σ, rfl, h, fun _ _ => rfl, fun l hl => (if_neg (Nat.not_lt_zero l)).symm⟩ (by
      rintro i x hi ⟨M1, τ, rfl, hm, hf, hl⟩
      have e39 : τ 39 0 = σ 39 0 := by rw [hf 39 (by omega)]
      have e40 : τ 40 0 = σ 40 0 := by rw [hf 40 (by omega)]
      have e41 : τ 41 0 = σ 41 0 := by rw [hf 41 (by omega)]
      have ei : τ 38 i = σ 38 i := (hl i hi).trans (if_neg (Nat.lt_irrefl i))
      have hfa := ls_fa_b hs i q r
      have hm1 : lN (σ 38 i) * (nI (ls_fa (σ 40 0) (σ 41 0) i q r)).toInt64 = lN (w1 i) := by rw [nI_l (by omega), lN_mul, eW1]
      have b1i := b1 i hi
      have gi := gle i (by omega)
      obtain ⟨M2, e2, hm2⟩ := ls_tL hm (j := i) (w1 i) (by omega)
      have fin : f_X10_told_111 M1 (some (n + 31)) (nI q) z (lN (ls_gd w1 i)) (nI i) (some (ls_ad n 38)) (nI i) (lN (σ 38 i)) (nI (ls_fa (σ 40 0) (σ 41 0) i q r)) = some (.inl (M2, lN (ls_gd w1 (i + 1)), nI (i + 1))) := by
        refine bx (a := M2) (by rw [hm1]; exact e2) (bx (ls_fL hm2) (bx (a := lN (w1 i)) ?_ ?_))
        · have := ls_aL hm2 (show i < 8 by omega)
          rw [show mm_u τ 38 i (w1 i) 38 i = w1 i from if_pos ⟨rfl, rfl⟩] at this
          exact this
        · obtain ⟨y, hy, rfl⟩ := pe_loop (body := fun x : Int64 × Int64 => f_X10_told_123 M2 (some (n + 31)) (nI q) z x.1 (nI i) x.2) (x := (lN (ls_gd w1 i), lN (w1 i))) (fun j x => ∃ d r, x = (lN d, lN r) ∧ ls_eu (ls_gd w1 (i + 1)) j d r) (fun y => y = .inl (M2, lN (ls_gd w1 (i + 1)), nI (i + 1))) 129 ⟨_, _, rfl, Nat.gcd_comm _ _, by omega, by omega, Or.inl rfl⟩ (by
            rintro j x hj ⟨d, r, rfl, he⟩
            have he2 := he.2.1
            have he3 := he.2.2.1
            by_cases h0 : r = 0
            · subst h0
              refine Or.inr ⟨_, ift (show lg_cmp (lN 0) 0 = 0 by decide) (mpx rfl), ?_⟩
              rw [ls_eu_z he]
              show (Sum.inl (M2, lN (ls_gd w1 (i + 1)), nI i + 1) : (mm_M × Int64 × Int32) ⊕ (Int32 × mm_M)) = _
              rw [nI_1]
            · have hlt : j < 128 := by
                rcases Nat.lt_or_ge j 128 with q | q
                · exact q
                · exact absurd (ls_eu_e he q) h0
              have hne : ¬ lN r = lN 0 := fun q => h0 ((pk_lEQ (by omega) (by omega)).mp q)
              exact Or.inl ⟨(lN r, lN (d % r)), iff_ (fun q => hne ((lg_eq (lN r) (lN 0)).mp q)) (bx (a := lN (d % r)) ((if_neg hne).trans (congrArg some (pk_lRem he2 (by omega) he3))) rfl), ⟨r, d % r, rfl, ls_eu_s he (by omega)⟩, by omega⟩)
          exact hy
      have AL : mm_aL M1 (some (ls_ad n 38)) (nI i) = some (lN (σ 38 i)) := by
        rw [← ei]; exact ls_aL hm (show i < 8 by omega)
      refine ⟨(M2, lN (ls_gd w1 (i + 1)), nI (i + 1)), bx (ls_fI hm 39 (by decide)) (iff_ (show ¬ nI (τ 39 0) ≤ nI i by rw [e39]; exact nI_ge hi (by omega)) (bx (ls_fL hm) (bx (ls_fL hm) (bx AL ?_)))), M2, _, rfl, hm2, fun f hff => ?_, fun l hll => ?_⟩
      · have F40 : mm_fI M1 (some (n + 31)) 11 40 = some (nI (σ 40 0)) := by rw [← e40]; exact ls_fI hm 40 (by decide)
        have F41 : mm_fI M1 (some (n + 31)) 11 41 = some (nI (σ 41 0)) := by rw [← e41]; exact ls_fI hm 41 (by decide)
        unfold ls_fa at fin
        by_cases c1 : i < q
        · rw [if_pos c1] at fin
          refine ift (nI_lt c1 (by omega)) ?_
          by_cases c2 : r = 0
          · rw [if_pos c2] at fin
            exact iff_ (by rw [hz, c2]; decide) (bx F41 (by rw [s2]; exact fin))
          · rw [if_neg c2] at fin
            exact ift (by rw [hz, show r = 1 by omega]; rfl) (bx F41 fin)
        · rw [if_neg c1] at fin
          refine iff_ (nI_nlt (by omega) (by omega)) ?_
          by_cases c2 : r = 0
          · rw [if_pos c2] at fin
            exact iff_ (by rw [hz, c2]; decide) (bx F40 fin)
          · rw [if_neg c2] at fin
            exact ift (by rw [hz, show r = 1 by omega]; rfl) (bx F40 (by rw [s1]; exact fin))
      · funext j
        rw [mm_u, if_neg (fun e => hff e.1), hf f hff]
      · rw [mm_u]
        by_cases e : l = i
        · rw [if_pos ⟨rfl, e⟩, e, if_pos (by omega)]
        · rw [if_neg (fun z => e z.2), hl l hll]
          by_cases e2 : l < i
          · rw [if_pos e2, if_pos (by omega)]
          · rw [if_neg e2, if_neg (by omega)]) (by
      rintro x ⟨M1, τ, rfl, hm, hf, hl⟩
      have e39 : τ 39 0 = σ 39 0 := by rw [hf 39 (by omega)]
      have gp : 1 ≤ ls_gd w1 (σ 39 0) := by
        have := ls_gd_pos (w := w1) (i := σ 39 0 - 1) (b1 (σ 39 0 - 1) (by omega)).1
        rwa [show σ 39 0 - 1 + 1 = σ 39 0 by omega] at this
      have gl := gle (σ 39 0) (Nat.le_refl _)
      have ew2 : ∀ l, w2 l = w1 l / ls_gd w1 (σ 39 0) := fun l => congrFun eW2 l
      have hsm : ∀ i, i ≤ σ 39 0 → ls_sm w2 i ≤ i * 999 ^ (σ 42 0 + 1) ∧ ls_mx w2 i ≤ ls_sm w2 i := by
        intro i
        induction i with
        | zero => intro _; exact ⟨Nat.zero_le _, Nat.le_refl _⟩
        | succ i ih =>
          intro hi
          obtain ⟨a, b⟩ := ih (by omega)
          have := (b2 i (by omega)).2
          have e : ls_sm w2 (i + 1) = ls_sm w2 i + w2 i := rfl
          rw [e, Nat.succ_mul]
          refine ⟨by omega, ?_⟩
          unfold ls_mx
          split <;> omega
      have hall : ∀ i, i ≤ σ 39 0 → ls_sm w2 i < 2 ^ 63 := fun i hi => by
        have := (hsm i hi).1
        have e : i * 999 ^ (σ 42 0 + 1) ≤ 8 * 999 ^ 6 := Nat.mul_le_mul (by omega) h6
        omega
      obtain ⟨y, hy, hQ⟩ := pe_cnt (body := fun x : mm_M × Int64 × Int64 × Int32 => f_X10_told_161 x.1 (some (n + 31)) (lN (ls_gd w1 (σ 39 0))) x.2.1 x.2.2.1 x.2.2.2) (x := (M1, 0, 0, 0)) (fun i x => ∃ M2 τ2, x = (M2, lN (ls_mx w2 i), lN (ls_sm w2 i), nI i) ∧ ls_M n τ2 B M2 ∧ (∀ f, f ≠ 38 → τ2 f = σ f) ∧ ∀ l, l < σ 39 0 → τ2 38 l = if l < i then w2 l else w1 l) (fun y => ∃ M1 τ, y = (if ls_ov (σ 42 0 + 1) (σ 39 0) w2 = 0 then nI (ls_bq w2 (σ 40 0) (σ 41 0) (σ 39 0) (σ 39 0)) else 0, M1) ∧ ls_M n τ B M1 ∧ (∀ f, f ≠ 38 → f ≠ 42 → f ≠ 43 → τ f = σ f) ∧ τ 42 0 = σ 42 0 + 1 ∧ τ 43 0 = ls_ov (σ 42 0 + 1) (σ 39 0) w2 ∧ ∀ l, l < σ 39 0 → τ 38 l = w2 l) (σ 39 0) ⟨M1, τ, rfl, hm, hf, fun l hll => ((hl l hll).trans (if_pos hll)).trans (if_neg (Nat.not_lt_zero l)).symm⟩ (by
          rintro i x hi ⟨M2, τ2, rfl, hm2, hf2, hl2⟩
          have e39 : τ2 39 0 = σ 39 0 := by rw [hf2 39 (by omega)]
          have ei : τ2 38 i = w1 i := (hl2 i hi).trans (if_neg (Nat.lt_irrefl i))
          have b1i := b1 i hi
          have b2i := b2 i hi
          have hs1 := hsm i (by omega)
          have ha1 := hall (i + 1) hi
          have ha0 := hall i (by omega)
          have eS : ls_sm w2 (i + 1) = ls_sm w2 i + w2 i := rfl
          have eX : ls_mx w2 (i + 1) = if ls_mx w2 i < w2 i then w2 i else ls_mx w2 i := rfl
          obtain ⟨M3, e3, hm3⟩ := ls_tL hm2 (j := i) (w2 i) (by omega)
          have hne : ¬ lN (ls_gd w1 (σ 39 0)) = lN 0 := fun q => by have := (pk_lEQ (by omega) (by omega)).mp q; omega
          have AL : mm_aL M2 (some (ls_ad n 38)) (nI i) = some (lN (w1 i)) := by
            rw [← ei]; exact ls_aL hm2 (show i < 8 by omega)
          have AL3 : mm_aL M3 (some (ls_ad n 38)) (nI i) = some (lN (w2 i)) := by
            have := ls_aL hm3 (show i < 8 by omega)
            rw [show mm_u τ2 38 i (w2 i) 38 i = w2 i from if_pos ⟨rfl, rfl⟩] at this
            exact this
          have D : mm_dL (lN (w1 i)) (lN (ls_gd w1 (σ 39 0))) = some (lN (w2 i)) := by
            rw [ew2]
            exact (if_neg hne).trans (congrArg some (pk_lDiv (by omega) (by omega) (by omega)))
          have fin : ∀ s0, f_X10_told_211 M3 (some (n + 31)) (lN (ls_gd w1 (σ 39 0))) (lN (ls_sm w2 i)) (nI i) s0 = some (.inl (M3, s0, lN (ls_sm w2 (i + 1)), nI (i + 1))) := fun s0 => bx (ls_fL hm3) (bx AL3 (by rw [lN_add, nI_1]; rfl))
          refine ⟨(M3, lN (ls_mx w2 (i + 1)), lN (ls_sm w2 (i + 1)), nI (i + 1)), bx (ls_fI hm2 39 (by decide)) (iff_ (show ¬ nI (τ2 39 0) ≤ nI i by rw [e39]; exact nI_ge hi (by omega)) (bx (ls_fL hm2) (bx (ls_fL hm2) (bx AL (bx D (bx e3 (bx (ls_fL hm3) (bx AL3 ?_)))))))), M3, _, rfl, hm3, fun f hff => ?_, fun l hll => ?_⟩
          · rw [eX]
            by_cases c : ls_mx w2 i < w2 i
            · rw [if_pos c]
              exact iff_ (fun q => by
                have := (pk_lLE (by omega) (by omega)).mp ((lg_le (lN (w2 i)) (lN (ls_mx w2 i))).mp q)
                omega) (bx (ls_fL hm3) (bx AL3 (fin _)))
            · rw [if_neg c]
              exact ift ((lg_le _ _).mpr ((pk_lLE (by omega) (by omega)).mpr (by omega))) (fin _)
          · funext j
            rw [mm_u, if_neg (fun e => hff e.1), hf2 f hff]
          · rw [mm_u]
            by_cases e : l = i
            · rw [if_pos ⟨rfl, e⟩, e, if_pos (by omega)]
            · rw [if_neg (fun z => e z.2), hl2 l hll]
              by_cases e2 : l < i
              · rw [if_pos e2, if_pos (by omega)]
              · rw [if_neg e2, if_neg (by omega)]) (by
          rintro x ⟨M2, τ2, rfl, hm2, hf2, hl2⟩
          have e39 : τ2 39 0 = σ 39 0 := by rw [hf2 39 (by omega)]
          have e42 : τ2 42 0 = σ 42 0 := by rw [hf2 42 (by omega)]
          obtain ⟨M3, e3, hm3⟩ := ls_pI hm2 42 (σ 42 0 + 1) (by decide)
          have ha0 := hall (σ 39 0) (Nat.le_refl _)
          have hs0 := hsm (σ 39 0) (Nat.le_refl _)
          have X : ∀ {z}, (if nI (σ 42 0 + 1) = nI 6 then f_X10_told_266 M3 (some (n + 31)) (some (n + 31)) else f_X10_told_251 M3 (some (n + 31)) (lN (ls_mx w2 (σ 39 0))) (lN (ls_sm w2 (σ 39 0))) (some (n + 31))) = some z → f_X10_told_161 M2 (some (n + 31)) (lN (ls_gd w1 (σ 39 0))) (lN (ls_mx w2 (σ 39 0))) (lN (ls_sm w2 (σ 39 0))) (nI (σ 39 0)) = some (.inr z) := fun q => bx (ls_fI hm2 39 (by decide)) (ift (show nI (τ2 39 0) ≤ nI (σ 39 0) by rw [e39]; exact nI_le (Nat.le_refl _) (by omega)) (mpx (bx (a := nI (σ 42 0)) (by rw [← e42]; exact ls_fI hm2 42 (by decide)) (bx (a := M3) (by rw [nI_1]; exact e3) (bx (a := nI (σ 42 0 + 1)) (by
            have := ls_fI hm3 42 (by decide)
            rw [show mm_u τ2 42 0 (σ 42 0 + 1) 42 0 = σ 42 0 + 1 from if_pos ⟨rfl, rfl⟩] at this
            exact this) q)))))
          have fin : ∀ x, (x = 0 ∨ x = 1) → ls_ov (σ 42 0 + 1) (σ 39 0) w2 = x → (x = 0 → σ 42 0 + 1 ≤ 5) → ∃ z, f_X10_told_271 M3 (some (n + 31)) (some (n + 31)) (nI x) = some z ∧ ∃ M1 τ, z = (if ls_ov (σ 42 0 + 1) (σ 39 0) w2 = 0 then nI (ls_bq w2 (σ 40 0) (σ 41 0) (σ 39 0) (σ 39 0)) else 0, M1) ∧ ls_M n τ B M1 ∧ (∀ f, f ≠ 38 → f ≠ 42 → f ≠ 43 → τ f = σ f) ∧ τ 42 0 = σ 42 0 + 1 ∧ τ 43 0 = ls_ov (σ 42 0 + 1) (σ 39 0) w2 ∧ ∀ l, l < σ 39 0 → τ 38 l = w2 l := fun x hx hov hx5 => by
            obtain ⟨M4, e4, hm4⟩ := ls_pZ hm3 43 x (by decide) (by rcases hx with rfl | rfl; exact Or.inl rfl; exact Or.inr rfl)
            have f43 : mm_fI M4 (some (n + 31)) 11 43 = some (nI x) := by
              have := ls_fI hm4 43 (by decide)
              rw [show mm_u (mm_u τ2 42 0 (σ 42 0 + 1)) 43 0 x 43 0 = x from if_pos ⟨rfl, rfl⟩] at this
              exact this
            have w38 : ∀ l, l < σ 39 0 → mm_u (mm_u τ2 42 0 (σ 42 0 + 1)) 43 0 x 38 l = w2 l := fun l hll => (hl2 l hll).trans (if_pos hll)
            have rest : (∀ f, f ≠ 38 → f ≠ 42 → f ≠ 43 → mm_u (mm_u τ2 42 0 (σ 42 0 + 1)) 43 0 x f = σ f) ∧ mm_u (mm_u τ2 42 0 (σ 42 0 + 1)) 43 0 x 42 0 = σ 42 0 + 1 ∧ mm_u (mm_u τ2 42 0 (σ 42 0 + 1)) 43 0 x 43 0 = x := by
              refine ⟨fun f a b c => ?_, rfl, rfl⟩
              funext j
              rw [mm_u, if_neg (fun e => c e.1), mm_u, if_neg (fun e => b e.1), hf2 f a]
            rw [hov]
            rcases hx with rfl | rfl
            · have h5 := hx5 rfl
              have hp5 : (999 : Nat) ^ (σ 42 0 + 1) ≤ 999 ^ 5 := Nat.pow_le_pow_right (by omega) h5
              have g39 : mm_u (mm_u τ2 42 0 (σ 42 0 + 1)) 43 0 0 39 0 = σ 39 0 := e39
              have g40 : mm_u (mm_u τ2 42 0 (σ 42 0 + 1)) 43 0 0 40 0 = σ 40 0 := by rw [rest.1 40 (by omega) (by omega) (by omega)]
              have g41 : mm_u (mm_u τ2 42 0 (σ 42 0 + 1)) 43 0 0 41 0 = σ 41 0 := by rw [rest.1 41 (by omega) (by omega) (by omega)]
              have bq := ls_bestQ hm4 (by rw [g40, g41]; exact hs) (by rw [g39]; exact h8) (by rw [g39]; exact h2) (fun l hll => by
                rw [g39] at hll
                rw [w38 l hll]
                have := b2 l hll
                exact ⟨this.1, Nat.le_trans this.2 hp5⟩)
              rw [g39, g40, g41, ls_bq_cg w38] at bq
              exact ⟨_, bx e4 (bx f43 (ift rfl (bx (ls_rc hm4) (bx bq rfl)))), M4, _, by rw [if_pos rfl], hm4, rest.1, rest.2.1, rest.2.2, w38⟩
            · exact ⟨_, bx e4 (bx f43 (iff_ ne10 rfl)), M4, _, by rw [if_neg (by omega)], hm4, rest.1, rest.2.1, rest.2.2, w38⟩
          by_cases h5 : σ 42 0 + 1 = 6
          · obtain ⟨z, hz, hq⟩ := fin 1 (Or.inr rfl) (if_pos h5) (fun q => absurd q (by omega))
            exact ⟨z, X (ift (by rw [h5]) hz), hq⟩
          · have hp5 : (999 : Nat) ^ (σ 42 0 + 1) ≤ 999 ^ 5 := Nat.pow_le_pow_right (by omega) (by omega)
            have hsb : ls_sm w2 (σ 39 0) ≤ 8 * 999 ^ 5 := Nat.le_trans hs0.1 (Nat.mul_le_mul h8 hp5)
            have h72 : (9 : Nat) * (8 * 999 ^ 5) < 2 ^ 63 := by decide
            have eo : ls_ov (σ 42 0 + 1) (σ 39 0) w2 = if ls_mx w2 (σ 39 0) / 9 < ls_sm w2 (σ 39 0) - ls_mx w2 (σ 39 0) then 0 else 1 := if_neg h5
            have e9 : (9 : Int64) * (lN (ls_sm w2 (σ 39 0)) - lN (ls_mx w2 (σ 39 0))) = lN (9 * (ls_sm w2 (σ 39 0) - ls_mx w2 (σ 39 0))) := by rw [lN_sub hs0.2]; exact lN_mul 9 _
            have hne6 : ¬ nI (σ 42 0 + 1) = nI 6 := fun q => h5 ((nI_eq (by omega) (by omega)).mp q)
            by_cases c : ls_mx w2 (σ 39 0) / 9 < ls_sm w2 (σ 39 0) - ls_mx w2 (σ 39 0)
            · obtain ⟨z, hz, hq⟩ := fin 0 (Or.inl rfl) (eo.trans (if_pos c)) (fun _ => by omega)
              exact ⟨z, X (iff_ hne6 (ift (by rw [e9]; exact (lg_lt _ _).mpr ((pk_lLT (by omega) (by omega)).mpr (by omega))) hz)), hq⟩
            · obtain ⟨z, hz, hq⟩ := fin 1 (Or.inr rfl) (eo.trans (if_neg c)) (fun q => absurd q (by omega))
              refine ⟨z, X (iff_ hne6 (iff_ (fun q => ?_) hz)), hq⟩
              rw [e9] at q
              have := (pk_lLT (by omega) (by omega)).mp ((lg_lt _ _).mp q)
              omega)
      exact ⟨y, bx (ls_fI hm 39 (by decide)) (ift (show nI (τ 39 0) ≤ nI (σ 39 0) by rw [e39]; exact nI_le (Nat.le_refl _) (by omega)) (mpx hy)), hQ⟩)
  exact ⟨M1, τ, hy, hQ⟩
end
