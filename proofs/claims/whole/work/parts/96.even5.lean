section
variable {n k : Nat} {σ τ υ : ls_S} {B M M1 : mm_M} {E P F : Nat → Nat} {C : Nat}
theorem ls_evu_b (so : ls_so E 480 C P F) {g m D : Nat} (h : ls_evu τ E P F C g m) (hm : m ≤ ls_np F C g D) (hD : D ≤ 81) {q : Nat} (hq : q < 480) : τ 35 q ≤ 81 := by
  rcases Nat.eq_zero_or_pos (E q) with h0 | h0
  · rw [h.2.2 q hq h0]; omega
  · obtain ⟨j, hj, rfl⟩ := so.2.2 q hq h0
    rcases Nat.lt_or_ge j m with h1 | h1
    · obtain ⟨d, hd, y1, y2⟩ := ls_np_d so g j D (by omega)
      rw [h.1 d j y1 y2 h1]
      omega
    · rw [h.2.1 j h1 hj]; omega
/-- one day of the model's -/
theorem ls_evDay (h : ls_M n τ B M) (hE : ∀ q, q < 480 → τ 34 q = E q) (so : ls_so E 480 C P F) {w g d : Nat} (hw : w ≤ 20) (hg : g ≤ 480) (hd : d ≤ 80) (hu : ls_evu τ E P F C g (ls_np F C g d)) (hl : ∀ e, e < d → τ 36 e = ls_np F C g (e + 1) - ls_np F C g e) : (¬ ls_bad F C w g d ∧ ∃ M1 τ1, f_X10_putAll_35 M (some (n + 31)) (nI w) (nI g) (nI d) = some (.inl (M1, nI (d + 1))) ∧ ls_M n τ1 B M1 ∧ (∀ f, f ≠ 35 → f ≠ 36 → τ1 f = τ f) ∧ ls_evu τ1 E P F C g (ls_np F C g (d + 1)) ∧ ∀ e, e < d + 1 → τ1 36 e = ls_np F C g (e + 1) - ls_np F C g e) ∨ (ls_bad F C w g d ∧ ∃ M1 τ1, f_X10_putAll_35 M (some (n + 31)) (nI w) (nI g) (nI d) = some (.inr (0, M1)) ∧ ls_M n τ1 B M1 ∧ ∀ f, f ≠ 35 → f ≠ 36 → τ1 f = τ f) := by
  have hC := ls_so_C so
  have c0 := ls_np_C so g d
  have c1 := ls_np_C so g (d + 1)
  have m01 := ls_np_1 so g d
  obtain ⟨M0, f0, h0⟩ := ls_tI h 36 d 0 (by decide) rfl (show d < 81 by omega)
  have u36 : ∀ {υ : ls_S} (f j v : Nat), f ≠ 36 → mm_u υ 36 j v f = υ f := fun f j v hf => by
    funext i
    rw [mm_u, if_neg (fun q => hf q.1)]
  have u35 : ∀ {υ : ls_S} (f j v : Nat), f ≠ 35 → mm_u υ 35 j v f = υ f := fun f j v hf => by
    funext i
    rw [mm_u, if_neg (fun q => hf q.1)]
  have evu36 : ∀ {υ : ls_S} {m j v : Nat}, ls_evu υ E P F C g m → ls_evu (mm_u υ 36 j v) E P F C g m := by
    intro υ m j v hh
    unfold ls_evu
    rw [u36 35 j v (by omega)]
    exact hh
  obtain ⟨y, hy, hQ⟩ := pe_loop (body := fun x : mm_M × Int32 => f_X10_putAll_46 x.1 (some (n + 31)) (nI w) (nI g) (nI d) x.2) (x := (M0, 1))
    (fun i x => ∃ M1 τ1 u e, x = (M1, u) ∧ ls_M n τ1 B M1 ∧ (∀ f, f ≠ 35 → f ≠ 36 → τ1 f = τ f) ∧ ls_evu τ1 E P F C g e ∧ (∀ e2, e2 < d → τ1 36 e2 = ls_np F C g (e2 + 1) - ls_np F C g e2) ∧ τ1 36 d = e - ls_np F C g d ∧ ls_np F C g d ≤ e ∧ e ≤ ls_np F C g (d + 1) ∧ ((u = 1 ∧ e = ls_np F C g d + i) ∨ (u = 0 ∧ e = ls_np F C g (d + 1))) ∧ (ls_np F C g d < e → ¬ ls_bad F C w g d))
    (fun y => (¬ ls_bad F C w g d ∧ ∃ M1 τ1, y = .inl (M1, nI (d + 1)) ∧ ls_M n τ1 B M1 ∧ (∀ f, f ≠ 35 → f ≠ 36 → τ1 f = τ f) ∧ ls_evu τ1 E P F C g (ls_np F C g (d + 1)) ∧ ∀ e, e < d + 1 → τ1 36 e = ls_np F C g (e + 1) - ls_np F C g e) ∨ (ls_bad F C w g d ∧ ∃ M1 τ1, y = .inr (0, M1) ∧ ls_M n τ1 B M1 ∧ ∀ f, f ≠ 35 → f ≠ 36 → τ1 f = τ f)) (ls_np F C g (d + 1) - ls_np F C g d + 1) ⟨M0, _, 1, ls_np F C g d, rfl, h0, fun f a b => u36 f _ _ b, evu36 hu, fun e2 he2 => by rw [mm_u, if_neg (by omega)]; exact hl e2 he2, by rw [mm_u, if_pos ⟨rfl, rfl⟩]; omega, Nat.le_refl _, m01, Or.inl ⟨rfl, rfl⟩, fun z => absurd z (Nat.lt_irrefl _)⟩ (by
      rintro i x hi ⟨M1, τ1, u, e, rfl, hm, he, hu1, hl1, hld, hge, hle, hcase, hb⟩
      have hA := ls_np_s F C g d
      have hAb := ls_ip_b F d C
      have hE1 : ∀ q, q < 480 → τ1 34 q = E q := fun q hq => by rw [he 34 (by omega) (by omega)]; exact hE q hq
      have out : e = ls_np F C g (d + 1) → ∃ y, f_X10_putAll_196 M1 (some (n + 31)) (nI w) (nI g) (nI d) = some y ∧ ((¬ ls_bad F C w g d ∧ ∃ M1 τ1, y = .inl (M1, nI (d + 1)) ∧ ls_M n τ1 B M1 ∧ (∀ f, f ≠ 35 → f ≠ 36 → τ1 f = τ f) ∧ ls_evu τ1 E P F C g (ls_np F C g (d + 1)) ∧ ∀ e, e < d + 1 → τ1 36 e = ls_np F C g (e + 1) - ls_np F C g e) ∨ (ls_bad F C w g d ∧ ∃ M1 τ1, y = .inr (0, M1) ∧ ls_M n τ1 B M1 ∧ ∀ f, f ≠ 35 → f ≠ 36 → τ1 f = τ f)) := fun hend => by
        refine ⟨_, rfl, Or.inl ⟨fun z => ?_, M1, τ1, by rw [nI_1], hm, he, by rw [← hend]; exact hu1, fun e2 he2 => ?_⟩⟩
        · exact hb (by have := z.1; omega) z
        · by_cases e3 : e2 = d
          · rw [e3, hld, hend]
          · exact hl1 e2 (by omega)
      rcases hcase with ⟨hu0, hei⟩ | ⟨hu0, hend⟩
      · have r36 : mm_aI M1 (some (ls_ad n 36)) 12 (nI d) = some (nI i) := by
          have z := ls_aI hm 36 d (by decide) (show d < 81 by omega)
          rw [hld, hei, Nat.add_sub_cancel_left] at z
          exact z
        have pre : ∀ {z}, (if nI g ≤ nI i then mm_mp (f_X10_putAll_196 M1 (some (n + 31)) (nI w) (nI g) (nI d)) else f_X10_putAll_62 M1 (some (n + 31)) (nI w) (nI g) (nI d)) = z → f_X10_putAll_46 M1 (some (n + 31)) (nI w) (nI g) (nI d) u = z := fun q => iff_ (by rw [hu0]; decide) (bx (ls_fR hm 36 (by decide)) (bx r36 q))
        by_cases hgi : g ≤ i
        · obtain ⟨y, fy, qy⟩ := out (by omega)
          exact Or.inr ⟨y, pre (ift (nI_le hgi (by omega)) (mpx fy)), qy⟩
        · have pre2 : ∀ {z}, f_X10_putAll_62 M1 (some (n + 31)) (nI w) (nI g) (nI d) = z → f_X10_putAll_46 M1 (some (n + 31)) (nI w) (nI g) (nI d) u = z := fun q => pre (iff_ (nI_ge (by omega) (by omega)) q)
          by_cases hnx : e < C ∧ F e ≤ d
          · have hPe := so.1 e hnx.1
            have hin : e < ls_np F C g (d + 1) := by
              have := (ls_so_ip so (i := e) (d := d) hnx.1).mpr hnx.2
              omega
            have r34 : mm_aI M1 (some (ls_ad n 34)) 12 (nI (P e)) = some (nI (F e)) := by
              have z := ls_aI hm 34 (P e) (by decide) hPe.1
              rw [hE1 _ hPe.1] at z
              have z : mm_aI M1 (some (ls_ad n 34)) 12 (nI (P e)) = some (nI (E (P e)) - 1) := z
              rw [en1_s hPe.2.1] at z
              exact z
            have sc := fun {r} (hr : f_X10_putAll_140 M1 (some (n + 31)) (nI w) (nI g) (nI d) (nI (P e)) = some r) => ls_scan hm hE1 so hd hu1 hle (by omega) (nI w) (nI g) (Or.inl ⟨hnx.1, hnx.2, rfl⟩) hr
            have p140 : ∀ {z}, (if nI d ≤ nI (F e + w) then f_X10_putAll_173 M1 (some (n + 31)) (nI w) (nI g) (nI d) 1 (nI (P e)) else mm_mp (mm_mp (f_X10_putAll_171 M1))) = z → f_X10_putAll_140 M1 (some (n + 31)) (nI w) (nI g) (nI d) (nI (P e)) = z := fun {z} q => iff_ (nI_pos (by omega)) (show f_X10_putAll_157 M1 (some (n + 31)) (nI w) (nI g) (nI d) 1 (nI (P e)) = z from bx (ls_fR hm 34 (by decide)) (bx r34 (by rw [nI_add]; exact q)))
            by_cases hfw : d ≤ F e + w
            · have nb : ¬ ls_bad F C w g d := by
                by_cases hi0 : e = ls_np F C g d
                · intro z
                  have := z.2
                  rw [← hi0] at this
                  omega
                · exact hb (by omega)
              obtain ⟨M2, f2, h2⟩ := ls_tI hm 35 (P e) (d + 1) (by decide) rfl hPe.1
              obtain ⟨M3, f3, h3⟩ := ls_tI h2 36 d (i + 1) (by decide) rfl (show d < 81 by omega)
              have f2' : mm_tI M1 (some (ls_ad n 35)) (nI (P e)) (nI d) = some M2 := by rw [← nI_pred d]; exact f2
              have r36' : mm_aI M2 (some (ls_ad n 36)) 12 (nI d) = some (nI i) := by
                have z := ls_aI h2 36 d (by decide) (show d < 81 by omega)
                rw [u35 36 _ _ (by omega), hld, hei, Nat.add_sub_cancel_left] at z
                exact z
              refine Or.inl ⟨(M3, 1), pre2 (sc (p140 (ift (nI_le hfw (by omega)) (bx (ls_fR hm 35 (by decide)) (bx f2' (bx (ls_fR h2 36 (by decide)) (bx r36' (bx (a := M3) (by rw [nI_1]; exact f3) rfl)))))))), ⟨M3, _, 1, e + 1, rfl, h3, fun f a b => by rw [u36 f _ _ b, u35 f _ _ a]; exact he f a b, evu36 ⟨fun d2 j y1 y2 y3 => ?_, fun j y1 y2 => ?_, fun q hq hq0 => ?_⟩, fun e2 he2 => ?_, ?_, by omega, by omega, Or.inl ⟨rfl, by omega⟩, fun _ => nb⟩, by omega⟩
              · rw [mm_u]
                by_cases e2 : j = e
                · rw [if_pos ⟨rfl, by rw [e2]⟩]
                  congr 1
                  rcases Nat.lt_trichotomy d d2 with hdd | hdd | hdd
                  · have := ls_np_m so g (d := d + 1) (e := d2) (by omega); omega
                  · exact hdd
                  · have := ls_np_m so g (d := d2 + 1) (e := d) (by omega); omega
                · rw [if_neg (fun z => ls_so_P so (i := j) (j := e) (by omega) hnx.1 z.2)]
                  exact hu1.1 d2 j y1 y2 (by omega)
              · rw [mm_u, if_neg (fun z => ls_so_P so (i := e) (j := j) (by omega) y2 z.2.symm)]
                exact hu1.2.1 j (by omega) y2
              · rw [mm_u, if_neg (fun z => by rw [z.2] at hq0; omega)]
                exact hu1.2.2 q hq hq0
              · rw [mm_u, if_neg (by omega), u35 36 _ _ (by omega)]
                exact hl1 e2 he2
              · rw [mm_u, if_pos ⟨rfl, rfl⟩]; omega
            · have hi0 : e = ls_np F C g d := by
                by_cases hi0 : e = ls_np F C g d
                · exact hi0
                · have := ls_bad_j so (hb (by omega)) (j := e) hge hin
                  omega
              refine Or.inr ⟨_, pre2 (sc (p140 (iff_ (nI_ge (by omega) (by omega)) (mpx (mpx (show f_X10_putAll_171 M1 = some (0, M1) from rfl)))))), Or.inr ⟨⟨by omega, ?_⟩, M1, τ1, rfl, hm, he⟩⟩
              rw [← hi0]
              omega
          · have hend : e = ls_np F C g (d + 1) := by
              by_cases hec : e < C
              · have : ¬ e < ls_ip F d C := fun z => hnx ⟨hec, (ls_so_ip so hec).mp z⟩
                omega
              · omega
            refine Or.inl ⟨(M1, 0), pre2 (ls_scan hm hE1 so hd hu1 hle (by omega) (nI w) (nI g) (Or.inr ⟨hnx, rfl⟩) (show f_X10_putAll_140 M1 (some (n + 31)) (nI w) (nI g) (nI d) (-1) = some (.inl (M1, 0)) from rfl)), ⟨M1, τ1, 0, e, rfl, hm, he, hu1, hl1, hld, hge, hle, Or.inr ⟨rfl, hend⟩, hb⟩, by omega⟩
      · obtain ⟨y, fy, qy⟩ := out hend
        exact Or.inr ⟨y, ift hu0 (mpx fy), qy⟩)
  rcases hQ with ⟨a, M1, τ1, rfl, b⟩ | ⟨a, M1, τ1, rfl, b⟩
  · exact Or.inl ⟨a, M1, τ1, bx (ls_fR h 36 (by decide)) (bx f0 hy), b⟩
  · exact Or.inr ⟨a, M1, τ1, bx (ls_fR h 36 (by decide)) (bx f0 hy), b⟩
theorem ls_evChk (h : ls_M n τ B M) (hE : ∀ q, q < 480 → τ 34 q = E q) (so : ls_so E 480 C P F) {g : Nat} (hu : ls_evu τ E P F C g (ls_np F C g 81)) : ∃ r, f_X10_putAll_202 M (some (n + 31)) = some (r, M) ∧ ((r = 1 ∧ ls_np F C g 81 = C) ∨ (r = 0 ∧ ls_np F C g 81 ≠ C)) := by
  have c1 := ls_np_C so g 81
  obtain ⟨y, hy, r, rfl, hr⟩ := pe_loop (body := fun x : Int32 => f_X10_putAll_205 M (some (n + 31)) x) (x := 0)
    (fun i x => x = nI i ∧ ∀ k, k < i → 0 < E k → 0 < τ 35 k)
    (fun y => ∃ r, y = (r, M) ∧ ((r = 1 ∧ ls_np F C g 81 = C) ∨ (r = 0 ∧ ls_np F C g 81 ≠ C))) 480 ⟨rfl, fun k hk => absurd hk (Nat.not_lt_zero k)⟩ (by
      rintro i x hi ⟨rfl, hall⟩
      by_cases h480 : i = 480
      · subst h480
        refine Or.inr ⟨_, ift (nI_le (a := 480) (Nat.le_refl _) (by omega)) (mpx rfl), 1, rfl, Or.inl ⟨rfl, ?_⟩⟩
        rcases Nat.lt_or_ge (ls_np F C g 81) C with h1 | h1
        · have a := so.1 _ h1
          have b := hall _ a.1 (by omega)
          rw [hu.2.1 _ (Nat.le_refl _) h1] at b
          omega
        · omega
      · have hlt : i < 480 := by omega
        have r34 : mm_aI M (some (ls_ad n 34)) 12 (nI i) = some (nI (E i) - 1) := by have z := ls_aI h 34 i (by decide) hlt; rw [hE i hlt] at z; exact z
        have r35 : mm_aI M (some (ls_ad n 35)) 12 (nI i) = some (nI (τ 35 i) - 1) := ls_aI h 35 i (by decide) hlt
        have hb := ls_evu_b so hu (Nat.le_refl _) (by omega) hlt
        have hn : f_X10_putAll_235 M (some (n + 31)) (nI i) = some (.inl (nI (i + 1))) := by
          show some (Sum.inl (nI i + 1)) = _
          rw [nI_1]
        have pre : ∀ {z}, (if nI (E i) - 1 < 0 then f_X10_putAll_235 M (some (n + 31)) (nI i) else f_X10_putAll_223 M (some (n + 31)) (nI i)) = z → f_X10_putAll_205 M (some (n + 31)) (nI i) = z := fun q => iff_ (nI_ge (b := 480) hlt (by omega)) (bx (ls_fR h 34 (by decide)) (bx r34 q))
        by_cases h0 : E i = 0
        · exact Or.inl ⟨_, pre (ift (en1_0 h0) hn), ⟨rfl, fun k hk he => by
            by_cases e : k = i
            · rw [e, h0] at he; omega
            · exact hall k (by omega) he⟩, hlt⟩
        · obtain ⟨f, hf⟩ : ∃ f, E i = f + 1 := ⟨E i - 1, by omega⟩
          obtain ⟨j, hj, hpj⟩ := so.2.2 i hlt (by omega)
          have h60 := so.1 j hj
          rw [hpj] at h60
          have pre2 : ∀ {z}, (if 0 ≤ nI (τ 35 i) - 1 then f_X10_putAll_235 M (some (n + 31)) (nI i) else mm_mp (f_X10_putAll_233 M)) = z → f_X10_putAll_205 M (some (n + 31)) (nI i) = z := fun q => pre (iff_ (by rw [en1_s hf]; exact nI_pos (by omega)) (bx (ls_fR h 35 (by decide)) (bx r35 q)))
          by_cases hp : τ 35 i = 0
          · refine Or.inr ⟨_, pre2 (iff_ (Int32.not_le.mpr (en1_0 hp)) (mpx rfl)), 0, rfl, Or.inr ⟨rfl, fun z => ?_⟩⟩
            have := ls_evu_d so hu (j := j) (by omega) (Nat.le_refl _)
            rw [hpj] at this
            omega
          · obtain ⟨x, hx⟩ : ∃ x, τ 35 i = x + 1 := ⟨τ 35 i - 1, by omega⟩
            exact Or.inl ⟨_, pre2 (ift (by rw [en1_s hx]; exact nI_pos' (by omega)) hn), ⟨rfl, fun k hk he => by
              by_cases e : k = i
              · rw [e]; omega
              · exact hall k (by omega) he⟩, hlt⟩)
  exact ⟨r, hy, hr⟩
theorem ls_putAll (h : ls_M n τ B M) (hE : ∀ q, q < 480 → τ 34 q = E q) (so : ls_so E 480 C P F) {w g : Nat} (hw : w ≤ 20) (hg : g ≤ 480) (v1 : Int32) : ∃ r M1 τ1, f_X10_putAll M (some (n + 31)) v1 (nI w) (nI g) = some (r, M1) ∧ ls_M n τ1 B M1 ∧ (∀ f, f ≠ 35 → f ≠ 36 → τ1 f = τ f) ∧ ((r = 1 ∧ ls_fit F C w g ∧ (∀ e, e < 81 → τ1 36 e = ls_np F C g (e + 1) - ls_np F C g e) ∧ ls_evu τ1 E P F C g C) ∨ (r = 0 ∧ ¬ ls_fit F C w g)) := by
  have hC := ls_so_C so
  obtain ⟨y, hy, r, M1, τ1, rfl, a, b, c⟩ := pe_cnt (body := fun x : mm_M × Int32 => f_X10_putAll_3 x.1 (some (n + 31)) (nI w) (nI g) x.2) (x := (M, 0))
    (fun i x => ∃ M1 τ1, x = (M1, nI i) ∧ ls_M n τ1 B M1 ∧ (∀ f, f ≠ 35 → f ≠ 36 → τ1 f = τ f) ∧ ∀ q, q < i → τ1 35 q = 0)
    (fun y => ∃ r M1 τ1, y = (r, M1) ∧ ls_M n τ1 B M1 ∧ (∀ f, f ≠ 35 → f ≠ 36 → τ1 f = τ f) ∧ ((r = 1 ∧ ls_fit F C w g ∧ (∀ e, e < 81 → τ1 36 e = ls_np F C g (e + 1) - ls_np F C g e) ∧ ls_evu τ1 E P F C g C) ∨ (r = 0 ∧ ¬ ls_fit F C w g))) 480 ⟨M, τ, rfl, h, fun _ _ _ => rfl, fun q hq => absurd hq (Nat.not_lt_zero q)⟩ (by
      rintro i x hi ⟨M1, τ1, rfl, hm, he, h0⟩
      obtain ⟨M2, f2, h2⟩ := ls_tI hm 35 i 0 (by decide) rfl hi
      refine ⟨(M2, nI (i + 1)), iff_ (nI_ge (b := 480) hi (by omega)) (bx (ls_fR hm 35 (by decide)) (bx (a := M2) f2 ?_)), M2, _, rfl, h2, fun f a b => ?_, fun q hq => ?_⟩
      · show some (Sum.inl (M2, nI i + 1)) = _
        rw [nI_1]
      · funext j
        rw [mm_u, if_neg (fun q => a q.1)]
        exact congrFun (he f a b) j
      · rw [mm_u]
        by_cases e : q = i
        · rw [if_pos ⟨rfl, e⟩]
        · rw [if_neg (fun z => e z.2)]; exact h0 q (by omega)) (by
      rintro x ⟨M1, τ1, rfl, hm, he, h0⟩
      have hE1 : ∀ q, q < 480 → τ1 34 q = E q := fun q hq => by rw [he 34 (by omega) (by omega)]; exact hE q hq
      obtain ⟨y, hy, r, M2, τ2, rfl, a, b, c⟩ := pe_loop (body := fun x : mm_M × Int32 => f_X10_putAll_28 x.1 (some (n + 31)) (nI w) (nI g) x.2) (x := (M1, 0))
        (fun d x => ∃ M2 τ2, x = (M2, nI d) ∧ ls_M n τ2 B M2 ∧ (∀ f, f ≠ 35 → f ≠ 36 → τ2 f = τ f) ∧ (∀ e, e < d → ¬ ls_bad F C w g e) ∧ ls_evu τ2 E P F C g (ls_np F C g d) ∧ ∀ e, e < d → τ2 36 e = ls_np F C g (e + 1) - ls_np F C g e)
        (fun y => ∃ r M1 τ1, y = (r, M1) ∧ ls_M n τ1 B M1 ∧ (∀ f, f ≠ 35 → f ≠ 36 → τ1 f = τ f) ∧ ((r = 1 ∧ ls_fit F C w g ∧ (∀ e, e < 81 → τ1 36 e = ls_np F C g (e + 1) - ls_np F C g e) ∧ ls_evu τ1 E P F C g C) ∨ (r = 0 ∧ ¬ ls_fit F C w g))) 81 ⟨M1, τ1, rfl, hm, he, fun e he => absurd he (Nat.not_lt_zero e), ⟨fun d j _ _ h => absurd h (Nat.not_lt_zero j), fun j _ hj => h0 _ (so.1 j hj).1, fun q hq _ => h0 q hq⟩, fun e he => absurd he (Nat.not_lt_zero e)⟩ (by
          rintro d x hd ⟨M2, τ2, rfl, hm2, he2, hb, hu, hl⟩
          have hE2 : ∀ q, q < 480 → τ2 34 q = E q := fun q hq => by rw [he2 34 (by omega) (by omega)]; exact hE q hq
          by_cases h81 : d = 81
          · subst h81
            obtain ⟨r, f3, hr⟩ := ls_evChk hm2 hE2 so hu
            refine Or.inr ⟨_, ift (nI_lt (a := 80) (b := 81) (by omega) (by omega)) (mpx f3), r, M2, τ2, rfl, hm2, he2, ?_⟩
            rcases hr with ⟨hr1, hN⟩ | ⟨hr0, hN⟩
            · rw [hN] at hu
              exact Or.inl ⟨hr1, ls_bad_fit so hb hN, hl, hu⟩
            · exact Or.inr ⟨hr0, fun z => hN (ls_fit_81 so hw z)⟩
          · have hlt : d < 81 := by omega
            have pre : ∀ {z}, f_X10_putAll_35 M2 (some (n + 31)) (nI w) (nI g) (nI d) = z → f_X10_putAll_28 M2 (some (n + 31)) (nI w) (nI g) (nI d) = z := fun q => iff_ (nI_nlt (a := 80) (b := d) (by omega) (by omega)) q
            rcases ls_evDay hm2 hE2 so hw hg (by omega) hu hl with ⟨nb, M3, τ3, f3, h3, e3, u3, l3⟩ | ⟨bd, M3, τ3, f3, h3, e3⟩
            · exact Or.inl ⟨_, pre f3, ⟨M3, τ3, rfl, h3, fun f a b => (e3 f a b).trans (he2 f a b), fun e he => by
                by_cases e4 : e = d
                · rw [e4]; exact nb
                · exact hb e (by omega), u3, l3⟩, hlt⟩
            · exact Or.inr ⟨_, pre f3, 0, M3, τ3, rfl, h3, fun f a b => (e3 f a b).trans (he2 f a b), Or.inr ⟨rfl, fun z => ls_fit_bad so z d bd⟩⟩)
      exact ⟨_, ift (nI_le (a := 480) (Nat.le_refl _) (by omega)) (mpx hy), r, M2, τ2, rfl, a, b, c⟩)
  exact ⟨r, M1, τ1, hy, a, b, c⟩
end
