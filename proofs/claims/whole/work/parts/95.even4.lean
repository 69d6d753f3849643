theorem en1_0 {v : Nat} (h : v = 0) : nI v - 1 < 0 := by
  rw [h]
  decide
theorem en1_s {v f : Nat} (h : v = f + 1) : nI v - 1 = nI f := by rw [h, nI_pred]
section
variable {n k : Nat} {σ τ υ : ls_S} {B M M1 : mm_M} {E P F : Nat → Nat} {C : Nat}
/-- the first m places stand on their days, the others on none -/
def ls_evu (τ : ls_S) (E P F : Nat → Nat) (C g m : Nat) : Prop := (∀ d j, ls_np F C g d ≤ j → j < ls_np F C g (d + 1) → j < m → τ 35 (P j) = d + 1) ∧ (∀ j, m ≤ j → j < C → τ 35 (P j) = 0) ∧ ∀ q, q < 480 → E q = 0 → τ 35 q = 0
theorem ls_evu_d (so : ls_so E 480 C P F) {g m : Nat} (h : ls_evu τ E P F C g m) {D j : Nat} (hj : j < m) (hm : m ≤ ls_np F C g D) : 0 < τ 35 (P j) := by
  obtain ⟨d, _, h1, h2⟩ := ls_np_d so g j D (by omega)
  rw [h.1 d j h1 h2 hj]
  omega
/-- the place that is put next -/
theorem ls_scan (h : ls_M n τ B M) (hE : ∀ q, q < 480 → τ 34 q = E q) (so : ls_so E 480 C P F) {g d e D : Nat} (hd : d ≤ 80) (hu : ls_evu τ E P F C g e) (heD : e ≤ ls_np F C g D) (hD : D ≤ 81) (v2 v3 : Int32) {b : Int32} (hb : (e < C ∧ F e ≤ d ∧ b = nI (P e)) ∨ (¬ (e < C ∧ F e ≤ d) ∧ b = -1)) {r} (hr : f_X10_putAll_140 M (some (n + 31)) v2 v3 (nI d) b = some r) : f_X10_putAll_62 M (some (n + 31)) v2 v3 (nI d) = some r := by
  have hc := ls_np_C so g D
  have E61 : ∀ q, q < 480 → E q ≤ 61 := fun q hq => by
    rcases Nat.eq_zero_or_pos (E q) with h0 | h0
    · omega
    · obtain ⟨j, hj, rfl⟩ := so.2.2 q hq h0
      have := so.1 j hj
      omega
  obtain ⟨y, hy, rfl⟩ := pe_cnt (body := fun x : Int32 × Int32 => f_X10_putAll_68 M (some (n + 31)) v2 v3 (nI d) x.1 x.2) (x := (-1, 0))
    (fun i x => ∃ u, x = (u, nI i) ∧ ((u = -1 ∧ ∀ k, k < i → ¬ (0 < E k ∧ E k ≤ d + 1 ∧ τ 35 k = 0)) ∨ ∃ z, z < i ∧ u = nI z ∧ (0 < E z ∧ E z ≤ d + 1 ∧ τ 35 z = 0) ∧ ∀ k, k < i → (0 < E k ∧ E k ≤ d + 1 ∧ τ 35 k = 0) → E z < E k ∨ (E z = E k ∧ z ≤ k)))
    (fun y => y = r) 480 ⟨-1, rfl, Or.inl ⟨rfl, fun k hk => absurd hk (Nat.not_lt_zero k)⟩⟩ (by
      rintro i x hi ⟨u, rfl, hu1⟩
      have r34 : mm_aI M (some (ls_ad n 34)) 12 (nI i) = some (nI (E i) - 1) := by have z := ls_aI h 34 i (by decide) hi; rw [hE i hi] at z; exact z
      have r35 : mm_aI M (some (ls_ad n 35)) 12 (nI i) = some (nI (τ 35 i) - 1) := ls_aI h 35 i (by decide) hi
      have hE61 := E61 i hi
      have hn : ∀ u : Int32, f_X10_putAll_134 M (some (n + 31)) v2 v3 (nI d) u (nI i) = some (.inl (u, nI (i + 1))) := fun u => by
        show some (Sum.inl (u, nI i + 1)) = _
        rw [nI_1]
      have pre : ∀ {z}, (if nI (E i) - 1 < 0 then f_X10_putAll_134 M (some (n + 31)) v2 v3 (nI d) u (nI i) else f_X10_putAll_86 M (some (n + 31)) v2 v3 (nI d) u (nI i)) = z → f_X10_putAll_68 M (some (n + 31)) v2 v3 (nI d) u (nI i) = z := fun q => iff_ (nI_ge (b := 480) hi (by omega)) (bx (ls_fR h 34 (by decide)) (bx r34 q))
      have skip : ¬ (0 < E i ∧ E i ≤ d + 1 ∧ τ 35 i = 0) → ∃ w, (u, nI (i + 1)) = (w, nI (i + 1)) ∧ ((w = -1 ∧ ∀ k, k < i + 1 → ¬ (0 < E k ∧ E k ≤ d + 1 ∧ τ 35 k = 0)) ∨ ∃ z, z < i + 1 ∧ w = nI z ∧ (0 < E z ∧ E z ≤ d + 1 ∧ τ 35 z = 0) ∧ ∀ k, k < i + 1 → (0 < E k ∧ E k ≤ d + 1 ∧ τ 35 k = 0) → E z < E k ∨ (E z = E k ∧ z ≤ k)) := fun hno => ⟨u, rfl, by
        rcases hu1 with ⟨a, b⟩ | ⟨z, z1, z2, z3, z4⟩
        · exact Or.inl ⟨a, fun k hk => by
            by_cases e : k = i
            · rw [e]; exact hno
            · exact b k (by omega)⟩
        · exact Or.inr ⟨z, by omega, z2, z3, fun k hk he => by
            by_cases e : k = i
            · rw [e] at he; exact absurd he hno
            · exact z4 k (by omega) he⟩⟩
      by_cases h0 : E i = 0
      · exact ⟨_, pre (ift (en1_0 h0) (hn u)), skip (by omega)⟩
      · obtain ⟨f, hf⟩ : ∃ f, E i = f + 1 := ⟨E i - 1, by omega⟩
        have e1 := en1_s hf
        rw [e1] at r34
        have pre2 : ∀ {z}, (if nI d < nI f then f_X10_putAll_134 M (some (n + 31)) v2 v3 (nI d) u (nI i) else f_X10_putAll_98 M (some (n + 31)) v2 v3 (nI d) u (nI i)) = z → f_X10_putAll_68 M (some (n + 31)) v2 v3 (nI d) u (nI i) = z := fun q => pre (iff_ (by rw [e1]; exact nI_pos (by omega)) (bx (ls_fR h 34 (by decide)) (bx r34 q)))
        by_cases hdf : d < f
        · exact ⟨_, pre2 (ift (nI_lt hdf (by omega)) (hn u)), skip (by omega)⟩
        · have pre3 : ∀ {z}, (if 0 ≤ nI (τ 35 i) - 1 then f_X10_putAll_134 M (some (n + 31)) v2 v3 (nI d) u (nI i) else f_X10_putAll_108 M (some (n + 31)) v2 v3 (nI d) u (nI i)) = z → f_X10_putAll_68 M (some (n + 31)) v2 v3 (nI d) u (nI i) = z := fun q => pre2 (iff_ (nI_nlt (by omega) (by omega)) (bx (ls_fR h 35 (by decide)) (bx r35 q)))
          by_cases hp : τ 35 i = 0
          · have hel : 0 < E i ∧ E i ≤ d + 1 ∧ τ 35 i = 0 := ⟨by omega, by omega, hp⟩
            have pre4 : ∀ {z}, (if u < 0 then f_X10_putAll_130 M (some (n + 31)) v2 v3 (nI d) (nI i) else f_X10_putAll_113 M (some (n + 31)) v2 v3 (nI d) u (nI i)) = z → f_X10_putAll_68 M (some (n + 31)) v2 v3 (nI d) u (nI i) = z := fun q => pre3 (iff_ (Int32.not_le.mpr (en1_0 hp)) q)
            rcases hu1 with ⟨a, b⟩ | ⟨z, z1, z2, z3, z4⟩
            · refine ⟨_, pre4 (ift (by rw [a]; decide) (hn (nI i))), _, rfl, Or.inr ⟨i, by omega, rfl, hel, fun k hk he => ?_⟩⟩
              by_cases e : k = i
              · exact Or.inr ⟨by rw [e], by omega⟩
              · exact absurd he (b k (by omega))
            · obtain ⟨fz, hfz⟩ : ∃ fz, E z = fz + 1 := ⟨E z - 1, by omega⟩
              have rz : mm_aI M (some (ls_ad n 34)) 12 u = some (nI fz) := by
                rw [z2]
                have y := ls_aI h 34 z (by decide) (show z < 480 by omega)
                rw [hE z (by omega)] at y
                have y : mm_aI M (some (ls_ad n 34)) 12 (nI z) = some (nI (E z) - 1) := y
                rw [en1_s hfz] at y
                exact y
              have hz61 := E61 z (by omega)
              have pre5 : ∀ {w}, (if nI fz ≤ nI f then f_X10_putAll_134 M (some (n + 31)) v2 v3 (nI d) u (nI i) else f_X10_putAll_130 M (some (n + 31)) v2 v3 (nI d) (nI i)) = w → f_X10_putAll_68 M (some (n + 31)) v2 v3 (nI d) u (nI i) = w := fun q => pre4 (iff_ (by rw [z2]; exact nI_pos (by omega)) (bx (ls_fR h 34 (by decide)) (bx r34 (bx (ls_fR h 34 (by decide)) (bx rz q)))))
              by_cases hle : fz ≤ f
              · refine ⟨_, pre5 (ift (nI_le hle (by omega)) (hn u)), _, rfl, Or.inr ⟨z, by omega, z2, z3, fun k hk he => ?_⟩⟩
                by_cases e : k = i
                · rw [e]; omega
                · exact z4 k (by omega) he
              · refine ⟨_, pre5 (iff_ (nI_ge (by omega) (by omega)) (hn (nI i))), _, rfl, Or.inr ⟨i, by omega, rfl, hel, fun k hk he => ?_⟩⟩
                by_cases e : k = i
                · exact Or.inr ⟨by rw [e], by omega⟩
                · have := z4 k (by omega) he
                  omega
          · obtain ⟨x, hx⟩ : ∃ x, τ 35 i = x + 1 := ⟨τ 35 i - 1, by omega⟩
            have hx' : x < 2 ^ 31 := by
              obtain ⟨j, hj, hpj⟩ := so.2.2 i hi (by omega)
              by_cases hje : j < e
              · obtain ⟨d2, hd2, y1, y2⟩ := ls_np_d so g j D (by omega)
                have y3 := hu.1 d2 j y1 y2 hje
                rw [hpj] at y3
                omega
              · have := hu.2.1 j (by omega) hj
                rw [hpj] at this
                exact absurd this hp
            exact ⟨_, pre3 (ift (by rw [en1_s hx]; exact nI_pos' hx') (hn u)), skip (fun z => hp z.2.2)⟩) (by
      rintro x ⟨u, rfl, hu1⟩
      have eu : u = b := by
        rcases hb with ⟨b1, b2, b3⟩ | ⟨b1, b2⟩
        · have hPe := so.1 e b1
          have elE : 0 < E (P e) ∧ E (P e) ≤ d + 1 ∧ τ 35 (P e) = 0 := ⟨by omega, by omega, hu.2.1 e (Nat.le_refl _) b1⟩
          rcases hu1 with ⟨a1, a2⟩ | ⟨z, z1, z2, z3, z4⟩
          · exact absurd elE (a2 (P e) hPe.1)
          · obtain ⟨j, hj, hpj⟩ := so.2.2 z z1 z3.1
            have hje : e ≤ j := by
              rcases Nat.lt_or_ge j e with h1 | h1
              · have := ls_evu_d so hu h1 heD
                rw [hpj, z3.2.2] at this
                omega
              · exact h1
            have y := z4 (P e) hPe.1 elE
            have hPj := so.1 j hj
            rw [hpj] at hPj
            have : j = e := by
              rcases Nat.lt_or_eq_of_le hje with h1 | h1
              · have w := so.2.1 j hj e h1
                rw [hpj] at w
                omega
              · exact h1.symm
            rw [z2, b3, ← hpj, this]
        · rcases hu1 with ⟨a1, a2⟩ | ⟨z, z1, z2, z3, z4⟩
          · rw [a1, b2]
          · exfalso
            obtain ⟨j, hj, hpj⟩ := so.2.2 z z1 z3.1
            have hje : e ≤ j := by
              rcases Nat.lt_or_ge j e with h1 | h1
              · have := ls_evu_d so hu h1 heD
                rw [hpj, z3.2.2] at this
                omega
              · exact h1
            have hPj := (so.1 j hj).2.1
            rw [hpj] at hPj
            have := ls_so_F so hje hj
            exact b1 ⟨by omega, by omega⟩
      rw [eu]
      exact ⟨r, ift (nI_le (a := 480) (Nat.le_refl _) (by omega)) (mpx hr), rfl⟩)
  exact hy
end
