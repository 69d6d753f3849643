section
variable {n k : Nat} {σ τ : ls_S} {B M0 M M1 : mm_M} {E P F : Nat → Nat} {Q C : Nat}
/-- the evening, made -/
def lc_ew (n : Nat) (M0 M : mm_M) (E P F : Nat → Nat) (C : Nat) : Prop := lc_di (lc_evp n) M0 M ∧ mm_I M (n + 12) 4 = nI 1 ∧ mm_I M (n + 12) 1 = nI C ∧ (∀ j, j < C → mm_I M (n + 13) j = nI (F j * 480 + P j)) ∧ ∀ q, q < 480 → E q = 0 → mm_I M (n + 14) q = -1
/-- the loads of the first days, and where the first ones stand -/
def lc_el2 (n : Nat) (M : mm_M) (F : Nat → Nat) (C g d : Nat) : Prop := ∀ e, e < d → mm_I M (n + 15) e = nI (ls_np F C g (e + 1) - ls_np F C g e)
def lc_ed (n : Nat) (M : mm_M) (P F : Nat → Nat) (C g m : Nat) : Prop := ∀ d j, ls_np F C g d ≤ j → j < ls_np F C g (d + 1) → j < m → mm_I M (n + 14) (P j) = nI d
theorem cl_putOn (h0 : lc n σ B M0) (hd : lc_di (lc_evp n) M0 M) {q d : Nat} (hq : q < 480) : f_X4_putOn M (some (n + 12)) (nI q) (nI d) = some (mm_sI M (n + 14) q (nI d)) :=
  iff_ (nI_pos (by omega)) (bx (ev_r h0 hd 2 14 (by decide)) (bx (pe_ln (ev_k h0 hd (14, 12, 480) (by decide)) (by omega)) (iff_ (nI_ge (b := 480) hq (by omega)) (bx (ev_r h0 hd 2 14 (by decide)) (bx (pe_tI _ (ev_k h0 hd (14, 12, 480) (by decide)) hq (by omega)) rfl)))))
/-- one day -/
theorem cl_fitDay (h0 : lc n σ B M0) (ev : lc_ew n M0 M E P F C) (so : ls_so E 480 C P F) {w g d : Nat} (hw : w ≤ 20) (hg : g ≤ 480) (hd81 : d < 81) (hl : lc_el2 n M F C g d) (hdy : lc_ed n M P F C g (ls_np F C g d)) : (¬ ls_bad F C w g d ∧ ∃ M1, f_X4_fits_15 M (some (n + 12)) (nI g) (nI w) (nI (ls_np F C g d)) (nI d) = some (.inl (M1, nI (ls_np F C g (d + 1)), nI (d + 1))) ∧ lc_ew n M0 M1 E P F C ∧ lc_el2 n M1 F C g (d + 1) ∧ lc_ed n M1 P F C g (ls_np F C g (d + 1))) ∨ (ls_bad F C w g d ∧ ∃ M1, f_X4_fits_15 M (some (n + 12)) (nI g) (nI w) (nI (ls_np F C g d)) (nI d) = some (.inr (0, M1)) ∧ lc_ew n M0 M1 E P F C) := by
  have hC := ls_so_C so
  have c0 := ls_np_C so g d
  have c1 := ls_np_C so g (d + 1)
  have m01 := ls_np_1 so g d
  obtain ⟨y, hy, hQ⟩ := pe_loop (body := fun x : mm_M × Int32 => f_X4_fits_18 x.1 (some (n + 12)) (nI g) (nI w) (nI (ls_np F C g d)) (nI d) x.2) (x := (M, nI (ls_np F C g d)))
    (fun i x => ∃ M1, x = (M1, nI (ls_np F C g d + i)) ∧ ls_np F C g d + i ≤ ls_np F C g (d + 1) ∧ (0 < i → ¬ ls_bad F C w g d) ∧ lc_ew n M0 M1 E P F C ∧ lc_el2 n M1 F C g d ∧ lc_ed n M1 P F C g (ls_np F C g d + i))
    (fun y => (¬ ls_bad F C w g d ∧ ∃ M1, y = .inl (M1, nI (ls_np F C g (d + 1)), nI (d + 1)) ∧ lc_ew n M0 M1 E P F C ∧ lc_el2 n M1 F C g (d + 1) ∧ lc_ed n M1 P F C g (ls_np F C g (d + 1))) ∨ (ls_bad F C w g d ∧ ∃ M1, y = .inr (0, M1) ∧ lc_ew n M0 M1 E P F C)) (ls_np F C g (d + 1) - ls_np F C g d) ⟨M, rfl, m01, fun h => absurd h (by omega), ev, hl, hdy⟩ (by
      rintro i x hi ⟨M1, rfl, hle, hb, hev, hl1, hdy1⟩
      obtain ⟨hd, h5, h2, hPF, hno⟩ := id hev
      have k12 := ev_k h0 hd (12, 5, 0) (by decide)
      have k13 := ev_k h0 hd (13, 12, 480) (by decide)
      have k16 := ev_k h0 hd (15, 12, 81) (by decide)
      have hA := ls_np_s F C g d
      have hAb := ls_ip_b F d C
      have esub : nI (ls_np F C g d + i) - nI (ls_np F C g d) = nI i := by rw [pk_sub (by omega)]; congr 1; omega
      -- the day's end
      have out : ls_np F C g d + i = ls_np F C g (d + 1) → ∃ y, f_X4_fits_104 M1 (some (n + 12)) (nI g) (nI w) (nI (ls_np F C g d)) (nI d) (nI (ls_np F C g d + i)) = some y ∧ ((¬ ls_bad F C w g d ∧ ∃ M1, y = .inl (M1, nI (ls_np F C g (d + 1)), nI (d + 1)) ∧ lc_ew n M0 M1 E P F C ∧ lc_el2 n M1 F C g (d + 1) ∧ lc_ed n M1 P F C g (ls_np F C g (d + 1))) ∨ (ls_bad F C w g d ∧ ∃ M1, y = .inr (0, M1) ∧ lc_ew n M0 M1 E P F C)) := fun he => by
        refine ⟨_, bx (ev_r h0 hd 3 15 (by decide)) (bx (a := mm_sI M1 (n + 15) d (nI i)) (by rw [esub]; exact pe_tI _ k16 hd81 (by omega)) rfl), Or.inl ⟨fun z => ?_, _, by rw [nI_1, he], ⟨ev_i hd (a := n + 15) ⟨by omega, by omega⟩ _ _, ?_, ?_, fun j hj => ?_, fun q hq he2 => ?_⟩, fun e hed => ?_, fun d2 j h1 h2 h3 => ?_⟩⟩
        · by_cases hi0 : i = 0
          · have := z.1; omega
          · exact hb (by omega) z
        · rw [mm_II, if_neg (by omega)]; exact h5
        · rw [mm_II, if_neg (by omega)]; exact h2
        · rw [mm_II, if_neg (by omega)]; exact hPF j hj
        · rw [mm_II, if_neg (by omega)]; exact hno q hq he2
        · rw [mm_II]
          by_cases e2 : e = d
          · rw [if_pos ⟨rfl, e2⟩, e2]; congr 1; omega
          · rw [if_neg (fun z => e2 z.2)]; exact hl1 e (by omega)
        · rw [mm_II, if_neg (by omega)]; exact hdy1 d2 j h1 h2 (by omega)
      have pre1 : ∀ {z}, (if nI C ≤ nI (ls_np F C g d + i) then mm_mp (f_X4_fits_104 M1 (some (n + 12)) (nI g) (nI w) (nI (ls_np F C g d)) (nI d) (nI (ls_np F C g d + i))) else f_X4_fits_27 M1 (some (n + 12)) (nI g) (nI w) (nI (ls_np F C g d)) (nI d) (nI (ls_np F C g d + i))) = z → f_X4_fits_18 M1 (some (n + 12)) (nI g) (nI w) (nI (ls_np F C g d)) (nI d) (nI (ls_np F C g d + i)) = z := fun q => bx (pfI k12 h2) q
      by_cases hCe : C ≤ ls_np F C g d + i
      · obtain ⟨y, fy, qy⟩ := out (by omega)
        exact Or.inr ⟨y, pre1 (ift (nI_le hCe (by omega)) (mpx fy)), qy⟩
      · have hlt : ls_np F C g d + i < C := by omega
        have hip := ls_so_ip so (i := ls_np F C g d + i) (d := d) hlt
        have hF := (so.1 _ hlt).2.2
        have hP := (so.1 _ hlt).1
        have pre2 : ∀ {z}, (if nI g ≤ nI i then mm_mp (f_X4_fits_104 M1 (some (n + 12)) (nI g) (nI w) (nI (ls_np F C g d)) (nI d) (nI (ls_np F C g d + i))) else f_X4_fits_45 M1 (some (n + 12)) (nI g) (nI w) (nI (ls_np F C g d)) (nI d) (nI (ls_np F C g d + i))) = z → f_X4_fits_18 M1 (some (n + 12)) (nI g) (nI w) (nI (ls_np F C g d)) (nI d) (nI (ls_np F C g d + i)) = z := fun q => pre1 (iff_ (nI_ge hlt (by omega)) (bx (ev_r h0 hd 0 13 (by decide)) (bx (pe_ln (ev_k h0 hd (13, 12, 480) (by decide)) (by omega)) (iff_ (nI_ge (b := 480) (by omega) (by omega)) (by
          show (if nI g ≤ nI (ls_np F C g d + i) - nI (ls_np F C g d) then _ else _) = _
          rw [esub]
          exact q)))))
        by_cases hgi : g ≤ i
        · obtain ⟨y, fy, qy⟩ := out (by omega)
          exact Or.inr ⟨y, pre2 (ift (nI_le hgi (by omega)) (mpx fy)), qy⟩
        · have rF : mm_aI M1 (some (n + 13)) 12 (nI (ls_np F C g d + i)) = some (nI (F (ls_np F C g d + i) * 480 + P (ls_np F C g d + i))) := paI k13 (by omega) (by omega) (hPF _ hlt)
          have pre3 : ∀ {z}, (if nI d < nI (F (ls_np F C g d + i)) then mm_mp (f_X4_fits_104 M1 (some (n + 12)) (nI g) (nI w) (nI (ls_np F C g d)) (nI d) (nI (ls_np F C g d + i))) else f_X4_fits_61 M1 (some (n + 12)) (nI g) (nI w) (nI (ls_np F C g d)) (nI d) (nI (ls_np F C g d + i))) = z → f_X4_fits_18 M1 (some (n + 12)) (nI g) (nI w) (nI (ls_np F C g d)) (nI d) (nI (ls_np F C g d + i)) = z := fun q => pre2 (iff_ (nI_ge (by omega) (by omega)) (bx (ev_r h0 hd 0 13 (by decide)) (bx rF (by rw [ev_div hF hP]; exact q))))
          by_cases hdF : d < F (ls_np F C g d + i)
          · obtain ⟨y, fy, qy⟩ := out (by
              have : ¬ ls_np F C g d + i < ls_ip F d C := fun z => by have := hip.mp z; omega
              omega)
            exact Or.inr ⟨y, pre3 (ift (nI_lt hdF (by omega)) (mpx fy)), qy⟩
          · have hin : ls_np F C g d + i < ls_np F C g (d + 1) := by
              have := hip.mpr (by omega)
              omega
            have pre4 : ∀ {z}, (if nI d ≤ nI (F (ls_np F C g d + i) + w) then f_X4_fits_81 M1 (some (n + 12)) (nI g) (nI w) (nI (ls_np F C g d)) (nI d) (nI (ls_np F C g d + i)) else mm_mp (mm_mp (f_X4_fits_79 M1))) = z → f_X4_fits_18 M1 (some (n + 12)) (nI g) (nI w) (nI (ls_np F C g d)) (nI d) (nI (ls_np F C g d + i)) = z := fun q => pre3 (iff_ (nI_nlt (by omega) (by omega)) (bx (ev_r h0 hd 0 13 (by decide)) (bx rF (by rw [ev_div hF hP, nI_add]; exact q))))
            by_cases hfw : d ≤ F (ls_np F C g d + i) + w
            · have nb : ¬ ls_bad F C w g d := by
                by_cases hi0 : i = 0
                · intro z
                  have := z.2
                  rw [hi0, Nat.add_zero] at hfw
                  omega
                · exact hb (by omega)
              refine Or.inl ⟨(mm_sI M1 (n + 14) (P (ls_np F C g d + i)) (nI d), nI (ls_np F C g d + (i + 1))), pre4 (ift (nI_le hfw (by omega)) (bx (ev_r h0 hd 0 13 (by decide)) (bx rF (bx (pe_rc k12) (bx (a := mm_sI M1 (n + 14) (P (ls_np F C g d + i)) (nI d)) (by rw [ev_rem hF hP]; exact cl_putOn h0 hd hP) ?_))))), ⟨_, rfl, by omega, fun _ => nb, ⟨ev_i hd (a := n + 14) ⟨by omega, by omega⟩ _ _, ?_, ?_, fun j hj => ?_, fun q hq he2 => ?_⟩, fun e hed => ?_, fun d2 j h1 h2' h3 => ?_⟩, by omega⟩
              · show some (Sum.inl (_, nI (ls_np F C g d + i) + 1)) = _
                rw [nI_1]; rfl
              · rw [mm_II, if_neg (by omega)]; exact h5
              · rw [mm_II, if_neg (by omega)]; exact h2
              · rw [mm_II, if_neg (by omega)]; exact hPF j hj
              · rw [mm_II, if_neg (fun z => by have := (so.1 _ hlt).2.1; rw [← z.2, he2] at this; omega)]; exact hno q hq he2
              · rw [mm_II, if_neg (by omega)]; exact hl1 e hed
              · rw [mm_II]
                by_cases e2 : j = ls_np F C g d + i
                · rw [if_pos ⟨rfl, by rw [e2]⟩]
                  congr 1
                  rcases Nat.lt_trichotomy d d2 with hdd | hdd | hdd
                  · have := ls_np_m so g (d := d + 1) (e := d2) (by omega); omega
                  · exact hdd
                  · have := ls_np_m so g (d := d2 + 1) (e := d) (by omega); omega
                · rw [if_neg (fun z => by
                    have z2 := z.2
                    exact ls_so_P so (i := j) (j := ls_np F C g d + i) (by omega) hlt z2)]
                  exact hdy1 d2 j h1 h2' (by omega)
            · have hi0 : i = 0 := by
                by_cases hi0 : i = 0
                · exact hi0
                · have := ls_bad_j so (hb (by omega)) (j := ls_np F C g d + i) (by omega) hin
                  omega
              refine Or.inr ⟨_, pre4 (iff_ (nI_ge (by omega) (by omega)) (mpx (mpx (show f_X4_fits_79 M1 = some (0, M1) from rfl)))), Or.inr ⟨⟨by omega, ?_⟩, M1, rfl, hev⟩⟩
              rw [hi0, Nat.add_zero] at hfw
              omega)
  rcases hQ with ⟨a, M1, rfl, b⟩ | ⟨a, M1, rfl, b⟩
  · exact Or.inl ⟨a, M1, hy, b⟩
  · exact Or.inr ⟨a, M1, hy, b⟩
theorem cl_fits (h0 : lc n σ B M0) (ev : lc_ew n M0 M E P F C) (so : ls_so E 480 C P F) {w g : Nat} (hw : w ≤ 20) (hg : g ≤ 480) : ∃ r M1, f_X4_fits M (some (n + 12)) (nI g) (nI w) = some (r, M1) ∧ lc_ew n M0 M1 E P F C ∧ ((r = 1 ∧ ls_fit F C w g ∧ lc_el2 n M1 F C g 81 ∧ lc_ed n M1 P F C g C) ∨ (r = 0 ∧ ¬ ls_fit F C w g)) := by
  have hC := ls_so_C so
  obtain ⟨y, hy, r, M1, rfl, hev, hr⟩ := pe_loop (body := fun x : mm_M × Int32 × Int32 => f_X4_fits_5 x.1 (some (n + 12)) (nI g) (nI w) x.2.1 x.2.2) (x := (M, 0, 0))
    (fun d x => ∃ M1, x = (M1, nI (ls_np F C g d), nI d) ∧ (∀ e, e < d → ¬ ls_bad F C w g e) ∧ lc_ew n M0 M1 E P F C ∧ lc_el2 n M1 F C g d ∧ lc_ed n M1 P F C g (ls_np F C g d))
    (fun y => ∃ r M1, y = (r, M1) ∧ lc_ew n M0 M1 E P F C ∧ ((r = 1 ∧ ls_fit F C w g ∧ lc_el2 n M1 F C g 81 ∧ lc_ed n M1 P F C g C) ∨ (r = 0 ∧ ¬ ls_fit F C w g))) 81 ⟨M, rfl, fun e he => absurd he (Nat.not_lt_zero e), ev, fun e he => absurd he (Nat.not_lt_zero e), fun d j _ _ h => absurd h (Nat.not_lt_zero j)⟩ (by
      rintro d x hd ⟨M1, rfl, hb, hev, hl1, hdy1⟩
      have c0 := ls_np_C so g d
      have k16 := ev_k h0 hev.1 (15, 12, 81) (by decide)
      have k12 := ev_k h0 hev.1 (12, 5, 0) (by decide)
      by_cases h81 : d = 81
      · subst h81
        by_cases hN : ls_np F C g 81 = C
        · rw [hN] at hdy1
          exact Or.inr ⟨_, bx (ev_r h0 hev.1 3 15 (by decide)) (bx (pe_ln k16 (by omega)) (ift (nI_le (a := 81) (Nat.le_refl _) (by omega)) (mpx (bx (pfI k12 hev.2.2.1) (ift (by rw [hN]) (gz (s := 1) (Or.inr rfl) rfl)))))), 1, M1, rfl, hev, Or.inl ⟨rfl, ls_bad_fit so hb hN, hl1, hdy1⟩⟩
        · exact Or.inr ⟨_, bx (ev_r h0 hev.1 3 15 (by decide)) (bx (pe_ln k16 (by omega)) (ift (nI_le (a := 81) (Nat.le_refl _) (by omega)) (mpx (bx (pfI k12 hev.2.2.1) (iff_ (fun q => hN ((nI_eq (by omega) (by omega)).mp q)) (gz (s := 0) (Or.inl rfl) rfl)))))), 0, M1, rfl, hev, Or.inr ⟨rfl, fun z => hN (ls_fit_81 so hw z)⟩⟩
      · have hlt : d < 81 := by omega
        have pre : ∀ {z}, f_X4_fits_15 M1 (some (n + 12)) (nI g) (nI w) (nI (ls_np F C g d)) (nI d) = z → f_X4_fits_5 M1 (some (n + 12)) (nI g) (nI w) (nI (ls_np F C g d)) (nI d) = z := fun q => bx (ev_r h0 hev.1 3 15 (by decide)) (bx (pe_ln k16 (by omega)) (iff_ (nI_ge (b := 81) hlt (by omega)) q))
        rcases cl_fitDay h0 hev so hw hg hlt hl1 hdy1 with ⟨nb, M2, f2, e2, l2, d2⟩ | ⟨bd, M2, f2, e2⟩
        · exact Or.inl ⟨_, pre f2, ⟨M2, rfl, fun e he => by
            by_cases e3 : e = d
            · rw [e3]; exact nb
            · exact hb e (by omega), e2, l2, d2⟩, hlt⟩
        · exact Or.inr ⟨_, pre f2, 0, M2, rfl, e2, Or.inr ⟨rfl, fun z => ls_fit_bad so z d bd⟩⟩)
  exact ⟨r, M1, hy, hev, hr⟩
theorem cl_leastG (h0 : lc n σ B M0) (ev : lc_ew n M0 M E P F C) (so : ls_so E 480 C P F) {w : Nat} (hw : w ≤ 20) : ∃ L M1, f_X4_leastGreatest M (some (n + 12)) (nI w) = some (nI L, M1) ∧ lc_ew n M0 M1 E P F C ∧ (ls_fit F C w L ∧ ∀ g, g < L → ¬ ls_fit F C w g) ∧ lc_el2 n M1 F C L 81 ∧ lc_ed n M1 P F C L C := by
  have hC := ls_so_C so
  obtain ⟨y, hy, L, M1, rfl, a, b, c, d⟩ := pe_loop (body := fun x : mm_M × Int32 => f_X4_leastGreatest_2 x.1 (some (n + 12)) (nI w) x.2) (x := (M, 0))
    (fun g x => ∃ M1, x = (M1, nI g) ∧ lc_ew n M0 M1 E P F C ∧ ∀ g2, g2 < g → ¬ ls_fit F C w g2)
    (fun y => ∃ L M1, y = (nI L, M1) ∧ lc_ew n M0 M1 E P F C ∧ (ls_fit F C w L ∧ ∀ g, g < L → ¬ ls_fit F C w g) ∧ lc_el2 n M1 F C L 81 ∧ lc_ed n M1 P F C L C) C ⟨M, rfl, ev, fun g hg => absurd hg (Nat.not_lt_zero g)⟩ (by
      rintro g x hg ⟨M1, rfl, hev, hno⟩
      have k12 := ev_k h0 hev.1 (12, 5, 0) (by decide)
      obtain ⟨r, M2, f2, e2, hr⟩ := cl_fits h0 hev so hw (g := g) (by omega)
      by_cases hgC : g = C
      · subst hgC
        have k12' := ev_k h0 e2.1 (12, 5, 0) (by decide)
        rcases hr with ⟨rfl, q1, q2, q3⟩ | ⟨rfl, q1⟩
        · exact Or.inr ⟨_, bx (pfI k12 hev.2.2.1) (ift (nI_le (Nat.le_refl _) (by omega)) (mpx (bx (pfI k12 hev.2.2.1) (bx (pe_rc k12) (b2x f2 (bx (pfI k12' e2.2.2.1) rfl)))))), g, M2, rfl, e2, ⟨q1, hno⟩, q2, q3⟩
        · exact absurd (ls_fit_C so w) q1
      · have hlt : g < C := by omega
        have pre : ∀ {z}, (if r = 0 then f_X4_leastGreatest_21 M2 (some (n + 12)) (nI w) (nI g) else mm_mp (f_X4_leastGreatest_19 M2 (nI g))) = z → f_X4_leastGreatest_2 M1 (some (n + 12)) (nI w) (nI g) = z := fun q => bx (pfI k12 hev.2.2.1) (iff_ (nI_ge hlt (by omega)) (bx (pe_rc k12) (b2x f2 q)))
        rcases hr with ⟨rfl, q1, q2, q3⟩ | ⟨rfl, q1⟩
        · exact Or.inr ⟨_, pre (iff_ ne10 (mpx rfl)), g, M2, rfl, e2, ⟨q1, hno⟩, q2, q3⟩
        · refine Or.inl ⟨(M2, nI (g + 1)), pre (ift rfl ?_), ⟨M2, rfl, e2, fun g2 hg2 => ?_⟩, hlt⟩
          · show some (Sum.inl (M2, nI g + 1)) = _
            rw [nI_1]
          · by_cases e3 : g2 = g
            · rw [e3]; exact q1
            · exact hno g2 (by omega))
  exact ⟨L, M1, hy, a, b, c, d⟩
end
