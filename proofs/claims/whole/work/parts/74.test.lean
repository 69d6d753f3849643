-- the test, in numbers
def ls_fa (sl gu l q r : Nat) : Nat := if l < q then (if r = 0 then 1000 - gu else gu) else (if r = 0 then sl else 1000 - sl)
theorem ls_fa_b {sl gu : Nat} (h : 1 ≤ sl ∧ sl ≤ 499 ∧ 1 ≤ gu ∧ gu ≤ 499) (l q r : Nat) : 1 ≤ ls_fa sl gu l q r ∧ ls_fa sl gu l q r ≤ 999 := by
  unfold ls_fa
  split <;> split <;> omega
def ls_mx (f : Nat → Nat) : Nat → Nat
  | 0 => 0
  | i + 1 => if ls_mx f i < f i then f i else ls_mx f i
theorem ls_mx_le {f : Nat → Nat} {b : Nat} : ∀ {i : Nat}, (∀ l, l < i → f l ≤ b) → ls_mx f i ≤ b
  | 0, _ => Nat.zero_le _
  | i + 1, h => by
    have a := ls_mx_le (f := f) (b := b) (i := i) (fun l hl => h l (by omega))
    have := h i (by omega)
    unfold ls_mx
    split <;> omega
theorem ls_mx_ge {f : Nat → Nat} : ∀ {i l : Nat}, l < i → f l ≤ ls_mx f i
  | 0, l, h => absurd h (Nat.not_lt_zero l)
  | i + 1, l, h => by
    unfold ls_mx
    by_cases e : l = i
    · subst e
      split <;> omega
    · have := ls_mx_ge (f := f) (i := i) (l := l) (by omega)
      split <;> omega
theorem ls_mx_cg {f g : Nat → Nat} : ∀ {i : Nat}, (∀ l, l < i → f l = g l) → ls_mx f i = ls_mx g i
  | 0, _ => rfl
  | i + 1, h => by
    unfold ls_mx
    rw [ls_mx_cg (i := i) (fun l hl => h l (by omega)), h i (by omega)]
abbrev ls_gb (w : Nat → Nat) (sl gu q r i : Nat) : Nat := ls_mx (fun l => w l * ls_fa sl gu l q r) i
/-- both greatest weights behind a question, together -/
abbrev ls_bo (w : Nat → Nat) (sl gu n q : Nat) : Nat := ls_gb w sl gu q 1 n + ls_gb w sl gu q 0 n
def ls_bq (w : Nat → Nat) (sl gu n : Nat) : Nat → Nat
  | 0 => 1
  | i + 1 => if i ≤ 1 then 1 else if ls_bo w sl gu n (ls_bq w sl gu n i) < ls_bo w sl gu n i then i else ls_bq w sl gu n i
theorem ls_bq_b (w : Nat → Nat) (sl gu n : Nat) : ∀ i, 2 ≤ i → 1 ≤ ls_bq w sl gu n i ∧ ls_bq w sl gu n i < i
  | 0, h => absurd h (by omega)
  | i + 1, h => by
    unfold ls_bq
    by_cases e : i ≤ 1
    · rw [if_pos e]; omega
    · rw [if_neg e]
      have := ls_bq_b w sl gu n i (by omega)
      split <;> omega
theorem ls_gcd_s (a b : Nat) : Nat.gcd b (a % b) = Nat.gcd a b := by
  rw [Nat.gcd_comm a b, Nat.gcd_rec b a, Nat.gcd_comm]
theorem ls_gcd_h {d r : Nat} (h0 : 0 < r) (h : r < d) : r * (d % r) * 2 ≤ d * r := by
  have h1 := Nat.div_add_mod d r
  have h2 := Nat.mod_lt d h0
  have h3 : 1 ≤ d / r := (Nat.le_div_iff_mul_le h0).mpr (by omega)
  have h4 : r * 1 ≤ r * (d / r) := Nat.mul_le_mul_left r h3
  have h5 : d % r * 2 ≤ d := by omega
  have h6 : r * (d % r * 2) ≤ r * d := Nat.mul_le_mul_left r h5
  rw [Nat.mul_assoc, Nat.mul_comm d r]
  exact h6
/-- Euclid's way, step i -/
def ls_eu (G i d r : Nat) : Prop := Nat.gcd d r = G ∧ d < 2 ^ 63 ∧ r < 2 ^ 63 ∧ (i = 0 ∨ (r < d ∧ d * r * 2 ^ (i - 1) < 2 ^ 126))
theorem ls_eu_s {G i d r : Nat} (h : ls_eu G i d r) (hr : 0 < r) : ls_eu G (i + 1) r (d % r) := by
  obtain ⟨h1, h2, h3, h4⟩ := h
  have hm := Nat.mod_lt d hr
  refine ⟨(ls_gcd_s d r).trans h1, h3, by omega, Or.inr ⟨hm, ?_⟩⟩
  rcases h4 with rfl | ⟨a, b⟩
  · have e1 : r * (d % r) ≤ r * (2 ^ 63 - 1) := Nat.mul_le_mul_left r (by omega)
    have e2 : r * (2 ^ 63 - 1) ≤ (2 ^ 63 - 1) * (2 ^ 63 - 1) := Nat.mul_le_mul_right _ (by omega)
    have e3 : (2 ^ 63 - 1) * (2 ^ 63 - 1) < 2 ^ 126 := by decide
    show r * (d % r) * 2 ^ 0 < 2 ^ 126
    rw [Nat.pow_zero, Nat.mul_one]
    omega
  · cases i with
    | zero => 
      have hh := ls_gcd_h hr a
      show r * (d % r) * 2 ^ 0 < 2 ^ 126
      have b' : d * r * 2 ^ 0 < 2 ^ 126 := b
      rw [Nat.pow_zero, Nat.mul_one] at b' ⊢
      omega
    | succ i =>
      have hh := ls_gcd_h hr a
      show r * (d % r) * 2 ^ (i + 1) < 2 ^ 126
      have b' : d * r * 2 ^ i < 2 ^ 126 := b
      have e : r * (d % r) * 2 ^ (i + 1) = r * (d % r) * 2 * 2 ^ i := by rw [Nat.pow_succ, Nat.mul_comm (2 ^ i) 2, ← Nat.mul_assoc]
      rw [e]
      exact Nat.lt_of_le_of_lt (Nat.mul_le_mul_right _ hh) b'
theorem ls_eu_e {G i d r : Nat} (h : ls_eu G i d r) (hi : 128 ≤ i) : r = 0 := by
  obtain ⟨h1, h2, h3, h4⟩ := h
  rcases h4 with h4 | ⟨a, b⟩
  · omega
  · rcases Nat.eq_zero_or_pos r with h0 | h0
    · exact h0
    · exfalso
      have e1 : 1 ≤ d * r := Nat.mul_pos (by omega) h0
      have e2 : 2 ^ 127 ≤ 2 ^ (i - 1) := Nat.pow_le_pow_right (by omega) (by omega)
      have e3 : 1 * 2 ^ 127 ≤ d * r * 2 ^ (i - 1) := Nat.mul_le_mul e1 e2
      have e4 : (1 : Nat) * 2 ^ 127 > 2 ^ 126 := by decide
      omega
theorem ls_eu_z {G i d : Nat} (h : ls_eu G i d 0) : d = G := by
  have := h.1
  rwa [Nat.gcd_zero_right] at this
section
variable {n : Nat} {M : mm_M}
theorem cl_gcd {a b : Nat} (ha : a < 2 ^ 63) (hb : b < 2 ^ 63) : f_X7_commonDivisor M (lN a) (lN b) = some (lN (Nat.gcd a b)) := by
  obtain ⟨z, hz, rfl⟩ := pe_loop (body := fun x : Int64 × Int64 × Int32 => f_X7_commonDivisor_9 M x.1 x.2.1 x.2.2) (x := (lN a, lN b, 0)) (fun i x => ∃ d r, x = (lN d, lN r, nI i) ∧ ls_eu (Nat.gcd a b) i d r) (fun z => z = lN (Nat.gcd a b)) 129 ⟨a, b, rfl, rfl, ha, hb, Or.inl rfl⟩ (by
      rintro i x hi ⟨d, r, rfl, h⟩
      have h2 := h.2.1
      have h3 := h.2.2.1
      have X : ∀ {z}, (if lg_cmp (lN r) 0 = 0 then mm_mp (f_X7_commonDivisor_45 M (lN d)) else f_X7_commonDivisor_24 M (lN d) (lN r) (nI i)) = z → f_X7_commonDivisor_9 M (lN d) (lN r) (nI i) = z := fun q => iff_ (nI_ge (b := 200) (by omega) (by omega)) q
      by_cases h0 : r = 0
      · subst h0
        exact Or.inr ⟨lN d, X (ift (by decide) (mpx rfl)), by rw [ls_eu_z h]⟩
      · have hlt : i < 128 := by
          rcases Nat.lt_or_ge i 128 with q | q
          · exact q
          · exact absurd (ls_eu_e h q) h0
        have hne : ¬ lN r = lN 0 := fun q => h0 ((pk_lEQ (by omega) (by omega)).mp q)
        refine Or.inl ⟨(lN r, lN (d % r), nI (i + 1)), X (iff_ (fun q => hne ((lg_eq (lN r) (lN 0)).mp q)) (bx (a := lN (d % r)) ((if_neg hne).trans (congrArg some (pk_lRem h2 (by omega) h3))) ?_)), ⟨r, d % r, rfl, ls_eu_s h (by omega)⟩, by omega⟩
        show some (Sum.inl (lN r, lN (d % r), nI i + 1)) = _
        rw [nI_1])
  exact hz
/-- the class's test: levels, slip, guess, asked, over, weights -/
def lc_Tb (n : Nat) (M : mm_M) (lv sl gu as ov : Nat) (w : Nat → Nat) : Prop := mm_k M (n + 16) = some (8, 0) ∧ mm_R M (n + 16) 0 = some (n + 17) ∧ mm_k M (n + 17) = some (13, 8) ∧ mm_I M (n + 16) 1 = nI lv ∧ mm_I M (n + 16) 2 = nI sl ∧ mm_I M (n + 16) 3 = nI gu ∧ mm_I M (n + 16) 4 = nI as ∧ mm_I M (n + 16) 5 = nI ov ∧ lv ≤ 8 ∧ ∀ l, l < lv → mm_L M (n + 17) l = lN (w l)
variable {lv sl gu as ov : Nat} {w : Nat → Nat}
theorem cl_factor (T : lc_Tb n M lv sl gu as ov w) (hs : sl ≤ 1000 ∧ gu ≤ 1000) {l q r : Nat} (hl : l < 2 ^ 30) (hq : q < 2 ^ 30) {z : Int32} (hz : z = nI r) (hr : r ≤ 1) : f_X7_factorOf M (some (n + 16)) (nI l) (nI q) z = some (nI (ls_fa sl gu l q r)) := by
  obtain ⟨k1, r1, k2, e1, e2, e3, e4, e5, h8, hw⟩ := T
  have s1 : (1000 : Int32) - nI sl = nI (1000 - sl) := pk_sub (a := 1000) hs.1
  have s2 : (1000 : Int32) - nI gu = nI (1000 - gu) := pk_sub (a := 1000) hs.2
  unfold ls_fa
  by_cases h1 : l < q
  · rw [if_pos h1]
    refine ift (nI_lt h1 (by omega)) ?_
    by_cases h2 : r = 0
    · rw [if_pos h2]
      exact ift (by rw [hz, h2]; rfl) (bx (pfI k1 e3) (congrArg some s2))
    · rw [if_neg h2]
      exact iff_ (by rw [hz]; exact nI_ne0 (by omega) (by omega)) (bx (pfI k1 e3) rfl)
  · rw [if_neg h1]
    refine iff_ (nI_nlt (by omega) (by omega)) ?_
    by_cases h2 : r = 0
    · rw [if_pos h2]
      exact ift (by rw [hz, h2]; rfl) (bx (pfI k1 e2) rfl)
    · rw [if_neg h2]
      exact iff_ (by rw [hz]; exact nI_ne0 (by omega) (by omega)) (bx (pfI k1 e2) (congrArg some s1))
theorem cl_gb (T : lc_Tb n M lv sl gu as ov w) (hs : 1 ≤ sl ∧ sl ≤ 499 ∧ 1 ≤ gu ∧ gu ≤ 499) (hw : ∀ l, l < lv → w l ≤ 999 ^ 5) {q r : Nat} (hq : q < 2 ^ 30) {z : Int32} (hz : z = nI r) (hr : r ≤ 1) : f_X7_greatestBehind M (some (n + 16)) (nI q) z = some (lN (ls_gb w sl gu q r lv)) := by
  have T0 := T
  obtain ⟨k1, r1, k2, e1, e2, e3, e4, e5, h8, hwl⟩ := T
  have hb : ∀ l, l < lv → w l * ls_fa sl gu l q r ≤ 999 ^ 5 * 999 := fun l hl => Nat.mul_le_mul (hw l hl) (ls_fa_b hs l q r).2
  have h63 : (999 : Nat) ^ 5 * 999 < 2 ^ 63 := by decide
  refine pe_for (body := fun x : Int64 × Int32 => f_X7_greatestBehind_5 M (some (n + 16)) (nI q) z x.1 x.2) (fun i => (lN (ls_gb w sl gu q r i), nI i)) lv (fun i hi => ?_) ?_
  · have hfa := ls_fa_b hs i q r
    have hm : lN (w i) * (nI (ls_fa sl gu i q r)).toInt64 = lN (w i * ls_fa sl gu i q r) := by rw [nI_l (by omega), lN_mul]
    have hg : ls_gb w sl gu q r i ≤ 999 ^ 5 * 999 := ls_mx_le (f := fun l => w l * ls_fa sl gu l q r) (b := 999 ^ 5 * 999) (i := i) (fun l hl => hb l (by omega))
    have hbi := hb i hi
    refine bx (pfI k1 e1) (iff_ (nI_ge hi (by omega)) (bx (pfR k1 r1) (bx (pe_ln k2 (by omega)) (iff_ (nI_ge (b := 8) (by omega) (by omega)) (bx (pfR k1 r1) (bx (paL k2 (by omega) (by omega) (hwl i hi)) (bx (pe_rc k1) (bx (cl_factor T0 (by omega) (by omega) hq hz hr) ?_))))))))
    show some (Sum.inl ((if lN (w i) * (nI (ls_fa sl gu i q r)).toInt64 < lN (ls_gb w sl gu q r i) then lN (ls_gb w sl gu q r i) else lN (w i) * (nI (ls_fa sl gu i q r)).toInt64), nI i + 1)) = some (Sum.inl (lN (ls_gb w sl gu q r (i + 1)), nI (i + 1)))
    rw [hm, nI_1]
    have hstep : ls_gb w sl gu q r (i + 1) = if ls_gb w sl gu q r i < w i * ls_fa sl gu i q r then w i * ls_fa sl gu i q r else ls_gb w sl gu q r i := rfl
    rw [hstep]
    by_cases h1 : w i * ls_fa sl gu i q r < ls_gb w sl gu q r i
    · rw [if_pos ((pk_lLT (by omega) (by omega)).mpr h1), if_neg (by omega)]
    · rw [if_neg (fun q => h1 ((pk_lLT (by omega) (by omega)).mp q))]
      by_cases h2 : ls_gb w sl gu q r i < w i * ls_fa sl gu i q r
      · rw [if_pos h2]
      · rw [if_neg h2, show w i * ls_fa sl gu i q r = ls_gb w sl gu q r i by omega]
  · exact bx (pfI k1 e1) (ift (nI_le (Nat.le_refl _) (by omega)) (mpx rfl))
theorem ls_bo_b (hs : 1 ≤ sl ∧ sl ≤ 499 ∧ 1 ≤ gu ∧ gu ≤ 499) (hw : ∀ l, l < lv → 1 ≤ w l ∧ w l ≤ 999 ^ 5) (h1 : 1 ≤ lv) (q : Nat) : 1 ≤ ls_bo w sl gu lv q ∧ ls_bo w sl gu lv q ≤ 999 ^ 5 * 999 + 999 ^ 5 * 999 := by
  have hb : ∀ r l, l < lv → w l * ls_fa sl gu l q r ≤ 999 ^ 5 * 999 := fun r l hl => Nat.mul_le_mul (hw l hl).2 (ls_fa_b hs l q r).2
  have g1 := ls_mx_le (f := fun l => w l * ls_fa sl gu l q 1) (b := 999 ^ 5 * 999) (i := lv) (hb 1)
  have g0 := ls_mx_le (f := fun l => w l * ls_fa sl gu l q 0) (b := 999 ^ 5 * 999) (i := lv) (hb 0)
  have l1 := ls_mx_ge (f := fun l => w l * ls_fa sl gu l q 1) (i := lv) (l := 0) (by omega)
  have p1 : 1 ≤ w 0 * ls_fa sl gu 0 q 1 := Nat.mul_pos (hw 0 (by omega)).1 (ls_fa_b hs 0 q 1).1
  exact ⟨Nat.le_trans p1 (Nat.le_trans l1 (Nat.le_add_right _ _)), Nat.add_le_add g1 g0⟩
theorem cl_bestQ (T : lc_Tb n M lv sl gu as ov w) (hs : 1 ≤ sl ∧ sl ≤ 499 ∧ 1 ≤ gu ∧ gu ≤ 499) (hw : ∀ l, l < lv → 1 ≤ w l ∧ w l ≤ 999 ^ 5) (h2 : 2 ≤ lv) : f_X7_bestQuestion M (some (n + 16)) = some (nI (ls_bq w sl gu lv lv)) := by
  have T0 := T
  obtain ⟨k1, r1, k2, e1, e2, e3, e4, e5, h8, hwl⟩ := T
  have hbo := ls_bo_b hs hw (show 1 ≤ lv by omega)
  have h63 : (999 : Nat) ^ 5 * 999 + 999 ^ 5 * 999 < 2 ^ 63 := by decide
  have key : ∀ (v1 : Int32) (v2 : Int64) (i : Nat), i < lv → ∀ {z}, (if lg_cmp (lN (ls_bo w sl gu lv i)) v2 ≤ 0 then f_X7_bestQuestion_46 M (some (n + 16)) v1 v2 (nI i) else f_X7_bestQuestion_40 M (some (n + 16)) (nI i) (lN (ls_bo w sl gu lv i))) = z → f_X7_bestQuestion_7 M (some (n + 16)) v1 v2 (nI i) = z := fun v1 v2 i hi z q => by
    refine bx (pfI k1 e1) (iff_ (nI_ge hi (by omega)) (bx (pe_rc k1) (bx (cl_gb T0 hs (fun l hl => (hw l hl).2) (q := i) (r := 1) (by omega) rfl (by omega)) (bx (pe_rc k1) (bx (cl_gb T0 hs (fun l hl => (hw l hl).2) (q := i) (r := 0) (by omega) rfl (by omega)) ?_)))))
    rw [lN_add]
    exact q
  have hnext : ∀ (u : Int32) (v : Int64) (i : Nat), f_X7_bestQuestion_46 M (some (n + 16)) u v (nI i) = some (.inl (u, v, nI (i + 1))) := fun u v i => by
    show some (Sum.inl (u, v, nI i + 1)) = _
    rw [nI_1]
  refine pe_for2 (body := fun x : Int32 × Int64 × Int32 => f_X7_bestQuestion_7 M (some (n + 16)) x.1 x.2.1 x.2.2) (fun i => if i ≤ 1 then (1, 0, 1) else (nI (ls_bq w sl gu lv i), lN (ls_bo w sl gu lv (ls_bq w sl gu lv i)), nI i)) 1 lv (by omega) (fun i h1 hi => ?_) ?_
  · have hbi := hbo i
    by_cases e : i = 1
    · subst e
      have e2 : ls_bq w sl gu lv 2 = 1 := if_pos (Nat.le_refl _)
      show f_X7_bestQuestion_7 M (some (n + 16)) 1 0 (nI 1) = some (Sum.inl (nI (ls_bq w sl gu lv 2), lN (ls_bo w sl gu lv (ls_bq w sl gu lv 2)), nI 2))
      rw [e2]
      exact key 1 0 1 hi (iff_ (fun q => by
        have := (pk_lLE (by omega) (by omega)).mp ((lg_le (lN (ls_bo w sl gu lv 1)) (lN 0)).mp q)
        omega) (hnext _ _ 1))
    · have hbb := hbo (ls_bq w sl gu lv i)
      show f_X7_bestQuestion_7 M (some (n + 16)) (if i ≤ 1 then ((1 : Int32), (0 : Int64), (1 : Int32)) else (nI (ls_bq w sl gu lv i), lN (ls_bo w sl gu lv (ls_bq w sl gu lv i)), nI i)).1 (if i ≤ 1 then ((1 : Int32), (0 : Int64), (1 : Int32)) else (nI (ls_bq w sl gu lv i), lN (ls_bo w sl gu lv (ls_bq w sl gu lv i)), nI i)).2.1 (if i ≤ 1 then ((1 : Int32), (0 : Int64), (1 : Int32)) else (nI (ls_bq w sl gu lv i), lN (ls_bo w sl gu lv (ls_bq w sl gu lv i)), nI i)).2.2 = some (Sum.inl (if i + 1 ≤ 1 then ((1 : Int32), (0 : Int64), (1 : Int32)) else (nI (ls_bq w sl gu lv (i + 1)), lN (ls_bo w sl gu lv (ls_bq w sl gu lv (i + 1))), nI (i + 1))))
      rw [if_neg (show ¬ i ≤ 1 by omega), if_neg (show ¬ i + 1 ≤ 1 by omega)]
      have hstep : ls_bq w sl gu lv (i + 1) = if ls_bo w sl gu lv (ls_bq w sl gu lv i) < ls_bo w sl gu lv i then i else ls_bq w sl gu lv i := if_neg (by omega)
      rw [hstep]
      by_cases hl : ls_bo w sl gu lv (ls_bq w sl gu lv i) < ls_bo w sl gu lv i
      · rw [if_pos hl]
        exact key _ _ i hi (iff_ (fun q => by
          have := (pk_lLE (by omega) (by omega)).mp ((lg_le _ _).mp q)
          omega) (hnext _ _ i))
      · rw [if_neg hl]
        exact key _ _ i hi (ift ((lg_le _ _).mpr ((pk_lLE (by omega) (by omega)).mpr (by omega))) (hnext _ _ i))
  · show f_X7_bestQuestion_7 M (some (n + 16)) (if lv ≤ 1 then ((1 : Int32), (0 : Int64), (1 : Int32)) else (nI (ls_bq w sl gu lv lv), lN (ls_bo w sl gu lv (ls_bq w sl gu lv lv)), nI lv)).1 (if lv ≤ 1 then ((1 : Int32), (0 : Int64), (1 : Int32)) else (nI (ls_bq w sl gu lv lv), lN (ls_bo w sl gu lv (ls_bq w sl gu lv lv)), nI lv)).2.1 (if lv ≤ 1 then ((1 : Int32), (0 : Int64), (1 : Int32)) else (nI (ls_bq w sl gu lv lv), lN (ls_bo w sl gu lv (ls_bq w sl gu lv lv)), nI lv)).2.2 = _
    rw [if_neg (show ¬ lv ≤ 1 by omega)]
    exact bx (pfI k1 e1) (ift (nI_le (Nat.le_refl _) (by omega)) (mpx rfl))
theorem cl_isClear (T : lc_Tb n M lv sl gu as ov w) (hw : ∀ l, l < lv → w l ≤ 999 ^ 6) : f_X7_isClear M (some (n + 16)) = some (if ls_mx w lv / 9 < ls_sm w lv - ls_mx w lv then 0 else 1) := by
  obtain ⟨k1, r1, k2, e1, e2, e3, e4, e5, h8, hwl⟩ := T
  have hsm : ∀ i, i ≤ lv → ls_sm w i ≤ i * 999 ^ 6 ∧ ls_mx w i ≤ ls_sm w i := by
    intro i
    induction i with
    | zero => intro _; exact ⟨Nat.zero_le _, Nat.le_refl _⟩
    | succ i ih =>
      intro hi
      obtain ⟨a, b⟩ := ih (by omega)
      have := hw i (by omega)
      have e : ls_sm w (i + 1) = ls_sm w i + w i := rfl
      rw [e, Nat.succ_mul]
      refine ⟨by omega, ?_⟩
      unfold ls_mx
      split <;> omega
  have h63 : (8 : Nat) * 999 ^ 6 < 2 ^ 63 := by decide
  have hall : ∀ i, i ≤ lv → ls_sm w i < 2 ^ 63 := fun i hi => by
    have := (hsm i hi).1
    have e : i * 999 ^ 6 ≤ 8 * 999 ^ 6 := Nat.mul_le_mul_right _ (by omega)
    omega
  refine pe_for (body := fun x : Int64 × Int64 × Int32 => f_X7_isClear_7 M (some (n + 16)) x.1 x.2.1 x.2.2) (fun i => (lN (ls_mx w i), lN (ls_sm w i), nI i)) lv (fun i hi => ?_) ?_
  · refine bx (pfI k1 e1) (iff_ (nI_ge hi (by omega)) (bx (pfR k1 r1) (bx (pe_ln k2 (by omega)) (iff_ (nI_ge (b := 8) (by omega) (by omega)) (bx (pfR k1 r1) (bx (paL k2 (by omega) (by omega) (hwl i hi)) (bx (pfR k1 r1) (bx (paL k2 (by omega) (by omega) (hwl i hi)) ?_))))))))
    show some (Sum.inl ((if lN (w i) < lN (ls_mx w i) then lN (ls_mx w i) else lN (w i)), lN (ls_sm w i) + lN (w i), nI i + 1)) = some (Sum.inl (lN (ls_mx w (i + 1)), lN (ls_sm w (i + 1)), nI (i + 1)))
    have h1 := hsm i (by omega)
    have h2 := hall (i + 1) hi
    have e : ls_sm w (i + 1) = ls_sm w i + w i := rfl
    rw [nI_1, lN_add, e]
    have hstep : ls_mx w (i + 1) = if ls_mx w i < w i then w i else ls_mx w i := rfl
    rw [hstep]
    by_cases c1 : w i < ls_mx w i
    · rw [if_pos ((pk_lLT (by omega) (by omega)).mpr c1), if_neg (by omega)]
    · rw [if_neg (fun q => c1 ((pk_lLT (by omega) (by omega)).mp q))]
      by_cases c2 : ls_mx w i < w i
      · rw [if_pos c2]
      · rw [if_neg c2, show w i = ls_mx w i by omega]
  · have h1 := hsm lv (Nat.le_refl _)
    have h2 := hall lv (Nat.le_refl _)
    refine bx (pfI k1 e1) (ift (nI_le (Nat.le_refl _) (by omega)) (mpx ?_))
    show (if lg_cmp (lN (ls_mx w lv) / lN 9) (lN (ls_sm w lv) - lN (ls_mx w lv)) < 0 then f_X7_isClear_70 M else f_X7_isClear_66 M) = _
    rw [pk_lDiv (by omega) (by omega) (by omega), lN_sub h1.2]
    by_cases c : ls_mx w lv / 9 < ls_sm w lv - ls_mx w lv
    · rw [if_pos c]
      exact ift ((lg_lt _ _).mpr ((pk_lLT (by omega) (by omega)).mpr c)) (gz (s := 0) (Or.inl rfl) rfl)
    · rw [if_neg c]
      exact iff_ (fun q => c ((pk_lLT (by omega) (by omega)).mp ((lg_lt _ _).mp q))) (gz (s := 1) (Or.inr rfl) rfl)
end
