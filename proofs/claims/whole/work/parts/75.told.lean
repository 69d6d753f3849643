/-- the greatest common divisor of the first ones -/
def ls_gd (w : Nat → Nat) : Nat → Nat
  | 0 => 0
  | i + 1 => Nat.gcd (w i) (ls_gd w i)
theorem ls_gd_dvd (w : Nat → Nat) : ∀ i l, l < i → ls_gd w i ∣ w l
  | 0, l, h => absurd h (Nat.not_lt_zero l)
  | i + 1, l, h => by
    show Nat.gcd (w i) (ls_gd w i) ∣ w l
    by_cases e : l = i
    · subst e; exact Nat.gcd_dvd_left _ _
    · exact Nat.dvd_trans (Nat.gcd_dvd_right _ _) (ls_gd_dvd w i l (by omega))
theorem ls_gd_pos {w : Nat → Nat} {i : Nat} (h : 1 ≤ w i) : 1 ≤ ls_gd w (i + 1) := Nat.gcd_pos_of_pos_left _ h
theorem ls_gd_le {w : Nat → Nat} {b : Nat} (hw : ∀ l, 1 ≤ w l → True) : ∀ {i : Nat}, (∀ l, l < i → 1 ≤ w l ∧ w l ≤ b) → ls_gd w i ≤ b
  | 0, _ => Nat.zero_le _
  | i + 1, h => Nat.le_trans (Nat.le_of_dvd (by have := (h i (by omega)).1; omega) (Nat.gcd_dvd_left (w i) (ls_gd w i))) (h i (by omega)).2
theorem ls_gd_cg {w v : Nat → Nat} : ∀ {i : Nat}, (∀ l, l < i → w l = v l) → ls_gd w i = ls_gd v i
  | 0, _ => rfl
  | i + 1, h => by
    show Nat.gcd (w i) (ls_gd w i) = Nat.gcd (v i) (ls_gd v i)
    rw [h i (by omega), ls_gd_cg (fun l hl => h l (by omega))]
abbrev ls_w1 (w : Nat → Nat) (sl gu q r l : Nat) : Nat := w l * ls_fa sl gu l q r
abbrev ls_w2 (w : Nat → Nat) (sl gu n q r l : Nat) : Nat := ls_w1 w sl gu q r l / ls_gd (ls_w1 w sl gu q r) n
/-- whether the test is over -/
def ls_ov (as n : Nat) (w : Nat → Nat) : Nat := if as = 6 then 1 else if ls_mx w n / 9 < ls_sm w n - ls_mx w n then 0 else 1
theorem ls_w1_b {w : Nat → Nat} {sl gu n t : Nat} (hs : 1 ≤ sl ∧ sl ≤ 499 ∧ 1 ≤ gu ∧ gu ≤ 499) (hw : ∀ l, l < n → 1 ≤ w l ∧ w l ≤ 999 ^ t) (q r : Nat) : ∀ l, l < n → 1 ≤ ls_w1 w sl gu q r l ∧ ls_w1 w sl gu q r l ≤ 999 ^ (t + 1) := fun l hl => by
  have a := hw l hl
  have b := ls_fa_b hs l q r
  refine ⟨Nat.mul_pos a.1 b.1, ?_⟩
  rw [Nat.pow_succ]
  exact Nat.mul_le_mul a.2 b.2
theorem ls_w2_b {w : Nat → Nat} {sl gu n t : Nat} (hs : 1 ≤ sl ∧ sl ≤ 499 ∧ 1 ≤ gu ∧ gu ≤ 499) (hw : ∀ l, l < n → 1 ≤ w l ∧ w l ≤ 999 ^ t) (q r : Nat) : ∀ l, l < n → 1 ≤ ls_w2 w sl gu n q r l ∧ ls_w2 w sl gu n q r l ≤ 999 ^ (t + 1) := fun l hl => by
  have a := ls_w1_b hs hw q r l hl
  have d := ls_gd_dvd (ls_w1 w sl gu q r) n l hl
  have le := Nat.le_of_dvd (by omega) d
  have p : 0 < ls_gd (ls_w1 w sl gu q r) n := Nat.pos_of_dvd_of_pos d (by omega)
  exact ⟨Nat.div_pos le p, Nat.le_trans (Nat.div_le_self _ _) a.2⟩
section
variable {n k : Nat} {σ τ : ls_S} {B M M1 : mm_M} {lv sl gu as ov : Nat} {w : Nat → Nat}
abbrev lc_tc2 (n : Nat) : Nat → Prop := fun a => a = n + 16 ∨ a = n + 17
theorem lc_Tb_L (T : lc_Tb n M lv sl gu as ov w) {v : Nat → Nat} {i x : Nat} (hv : ∀ l, l < lv → v l = if l = i then x else w l) : lc_Tb n (mm_sL M (n + 17) i (lN x)) lv sl gu as ov v := by
  obtain ⟨k1, r1, k2, e1, e2, e3, e4, e5, h8, hwl⟩ := T
  refine ⟨k1, r1, k2, e1, e2, e3, e4, e5, h8, fun l hl => ?_⟩
  rw [mm_LL, hv l hl]
  by_cases e : l = i
  · rw [if_pos ⟨rfl, e⟩, if_pos e]
  · rw [if_neg (fun z => e z.2), if_neg e]
    exact hwl l hl
theorem lc_Tb_w (T : lc_Tb n M lv sl gu as ov w) {v : Nat → Nat} (hv : ∀ l, l < lv → v l = w l) : lc_Tb n M lv sl gu as ov v := by
  obtain ⟨k1, r1, k2, e1, e2, e3, e4, e5, h8, hwl⟩ := T
  exact ⟨k1, r1, k2, e1, e2, e3, e4, e5, h8, fun l hl => by rw [hv l hl]; exact hwl l hl⟩
theorem lc_Tb_4 (T : lc_Tb n M lv sl gu as ov w) (x : Nat) : lc_Tb n (mm_sI M (n + 16) 4 (nI x)) lv sl gu x ov w := by
  obtain ⟨k1, r1, k2, e1, e2, e3, e4, e5, h8, hwl⟩ := T
  refine ⟨k1, r1, k2, ?_, ?_, ?_, ?_, ?_, h8, hwl⟩
  · rw [mm_II, if_neg (by omega)]; exact e1
  · rw [mm_II, if_neg (by omega)]; exact e2
  · rw [mm_II, if_neg (by omega)]; exact e3
  · rw [mm_II, if_pos ⟨rfl, rfl⟩]
  · rw [mm_II, if_neg (by omega)]; exact e5
theorem lc_Tb_5 (T : lc_Tb n M lv sl gu as ov w) (x : Nat) : lc_Tb n (mm_sI M (n + 16) 5 (nI x)) lv sl gu as x w := by
  obtain ⟨k1, r1, k2, e1, e2, e3, e4, e5, h8, hwl⟩ := T
  refine ⟨k1, r1, k2, ?_, ?_, ?_, ?_, ?_, h8, hwl⟩
  · rw [mm_II, if_neg (by omega)]; exact e1
  · rw [mm_II, if_neg (by omega)]; exact e2
  · rw [mm_II, if_neg (by omega)]; exact e3
  · rw [mm_II, if_neg (by omega)]; exact e4
  · rw [mm_II, if_pos ⟨rfl, rfl⟩]
theorem cl_hear (T : lc_Tb n M lv sl gu as ov w) (hs : 1 ≤ sl ∧ sl ≤ 499 ∧ 1 ≤ gu ∧ gu ≤ 499) (hw : ∀ l, l < lv → 1 ≤ w l ∧ w l ≤ 999 ^ as) (has : as ≤ 5) (h2 : 2 ≤ lv) {q r : Nat} (hq : q < 2 ^ 30) {z : Int32} (hz : z = nI r) (hr : r ≤ 1) : ∃ M1, f_X7_hear M (some (n + 16)) (nI q) z = some M1 ∧ lc_di (lc_tc2 n) M M1 ∧ lc_Tb n M1 lv sl gu (as + 1) (ls_ov (as + 1) lv (ls_w2 w sl gu lv q r)) (ls_w2 w sl gu lv q r) := by
  have h8 := T.2.2.2.2.2.2.2.2.1
  have b1 := ls_w1_b hs hw q r
  have b2 := ls_w2_b hs hw q r
  have h6 : (999 : Nat) ^ (as + 1) ≤ 999 ^ 6 := Nat.pow_le_pow_right (by omega) (by omega)
  have h5 : (999 : Nat) ^ as ≤ 999 ^ 5 := Nat.pow_le_pow_right (by omega) has
  have h63 : (999 : Nat) ^ 6 < 2 ^ 63 := by decide
  have gle : ∀ i, i ≤ lv → ls_gd (ls_w1 w sl gu q r) i ≤ 999 ^ (as + 1) := fun i hi => ls_gd_le (fun _ _ => trivial) (fun l hl => b1 l (by omega))
  refine pe_cnt (body := fun x : mm_M × Int64 × Int32 => f_X7_hear_5 x.1 (some (n + 16)) (nI q) z x.2.1 x.2.2) (x := (M, 0, 0)) (fun i x => ∃ M1, x = (M1, lN (ls_gd (ls_w1 w sl gu q r) i), nI i) ∧ lc_di (lc_tc2 n) M M1 ∧ lc_Tb n M1 lv sl gu as ov (fun l => if l < i then ls_w1 w sl gu q r l else w l)) (fun M1 => lc_di (lc_tc2 n) M M1 ∧ lc_Tb n M1 lv sl gu (as + 1) (ls_ov (as + 1) lv (ls_w2 w sl gu lv q r)) (ls_w2 w sl gu lv q r)) lv ⟨M, rfl, lc_di_rf _ M, lc_Tb_w T (fun l hl => if_neg (Nat.not_lt_zero l))⟩ ?_ ?_
  · rintro i x hi ⟨M1, rfl, hd, T1⟩
    have T0 := T1
    obtain ⟨k1, r1, k2, e1, e2, e3, e4, e5, -, hwl⟩ := T1
    have ei : mm_L M1 (n + 17) i = lN (w i) := (hwl i hi).trans (congrArg lN (if_neg (Nat.lt_irrefl i)))
    have hfa := ls_fa_b hs i q r
    have hm : lN (w i) * (nI (ls_fa sl gu i q r)).toInt64 = lN (ls_w1 w sl gu q r i) := by rw [nI_l (by omega), lN_mul]
    have T2 := lc_Tb_L (i := i) (x := ls_w1 w sl gu q r i) (v := fun l => if l < i + 1 then ls_w1 w sl gu q r l else w l) T0 (fun l hl => by
      show (if l < i + 1 then ls_w1 w sl gu q r l else w l) = if l = i then ls_w1 w sl gu q r i else (if l < i then ls_w1 w sl gu q r l else w l)
      by_cases e : l = i
      · subst e; rw [if_pos (by omega), if_pos rfl]
      · rw [if_neg e]
        by_cases e2 : l < i
        · rw [if_pos e2, if_pos (by omega)]
        · rw [if_neg e2, if_neg (by omega)])
    have bi := b1 i hi
    have gi := gle i (by omega)
    refine ⟨(mm_sL M1 (n + 17) i (lN (ls_w1 w sl gu q r i)), lN (ls_gd (ls_w1 w sl gu q r) (i + 1)), nI (i + 1)), bx (pfI k1 e1) (iff_ (nI_ge hi (by omega)) (bx (pfR k1 r1) (bx (pe_ln k2 (by omega)) (iff_ (nI_ge (b := 8) (by omega) (by omega)) (bx (pfR k1 r1) (bx (paL k2 (by omega) (by omega) ei) (bx (pe_rc k1) (bx (cl_factor T0 (by omega) (by omega) hq hz hr) (bx (a := mm_sL M1 (n + 17) i (lN (ls_w1 w sl gu q r i))) (by rw [hm]; exact pe_tL _ k2 (by omega) (by omega)) (bx (pfR (M := mm_sL M1 (n + 17) i (lN (ls_w1 w sl gu q r i))) k1 r1) (bx (paL (M := mm_sL M1 (n + 17) i (lN (ls_w1 w sl gu q r i))) (v := lN (ls_w1 w sl gu q r i)) k2 (by omega) (by omega) (by rw [mm_LL, if_pos ⟨rfl, rfl⟩])) (bx (cl_gcd (by omega) (by omega)) ?_)))))))))))), _, rfl, lc_di_L hd (Or.inr rfl) _ _, T2⟩
    show some (Sum.inl (_, _, nI i + 1)) = _
    rw [nI_1]
    rfl
  · rintro x ⟨M1, rfl, hd, T1⟩
    have T1 := lc_Tb_w (v := ls_w1 w sl gu q r) T1 (fun l hl => (if_pos hl).symm)
    have gp : 1 ≤ ls_gd (ls_w1 w sl gu q r) lv := by
      have := ls_gd_pos (w := ls_w1 w sl gu q r) (i := lv - 1) (b1 (lv - 1) (by omega)).1
      rwa [show lv - 1 + 1 = lv by omega] at this
    have gl := gle lv (Nat.le_refl _)
    obtain ⟨M2, hy, hd2, T2⟩ := pe_cnt (body := fun x : mm_M × Int32 => f_X7_hear_64 x.1 (some (n + 16)) (lN (ls_gd (ls_w1 w sl gu q r) lv)) x.2) (x := (M1, 0)) (fun i x => ∃ M2, x = (M2, nI i) ∧ lc_di (lc_tc2 n) M M2 ∧ lc_Tb n M2 lv sl gu as ov (fun l => if l < i then ls_w2 w sl gu lv q r l else ls_w1 w sl gu q r l)) (fun M1 => lc_di (lc_tc2 n) M M1 ∧ lc_Tb n M1 lv sl gu (as + 1) (ls_ov (as + 1) lv (ls_w2 w sl gu lv q r)) (ls_w2 w sl gu lv q r)) lv ⟨M1, rfl, hd, lc_Tb_w T1 (fun l hl => if_neg (Nat.not_lt_zero l))⟩ (by
      rintro i x hi ⟨M2, rfl, hd2, T2⟩
      have T0 := T2
      obtain ⟨k1, r1, k2, e1, e2, e3, e4, e5, -, hwl⟩ := T2
      have ei : mm_L M2 (n + 17) i = lN (ls_w1 w sl gu q r i) := (hwl i hi).trans (congrArg lN (if_neg (Nat.lt_irrefl i)))
      have bi := b1 i hi
      have X : ∀ {z}, (if lg_cmp (lN (ls_gd (ls_w1 w sl gu q r) lv)) 1 ≤ 0 then f_X7_hear_100 M2 (some (n + 16)) (lN (ls_gd (ls_w1 w sl gu q r) lv)) (nI i) else f_X7_hear_89 M2 (some (n + 16)) (lN (ls_gd (ls_w1 w sl gu q r) lv)) (nI i)) = z → f_X7_hear_64 M2 (some (n + 16)) (lN (ls_gd (ls_w1 w sl gu q r) lv)) (nI i) = z := fun q => bx (pfI k1 e1) (iff_ (nI_ge hi (by omega)) (bx (pfR k1 r1) (bx (pe_ln k2 (by omega)) (iff_ (nI_ge (b := 8) (by omega) (by omega)) q))))
      have hn : ∀ M3, f_X7_hear_100 M3 (some (n + 16)) (lN (ls_gd (ls_w1 w sl gu q r) lv)) (nI i) = some (.inl (M3, nI (i + 1))) := fun M3 => by
        show some (Sum.inl (M3, nI i + 1)) = _
        rw [nI_1]
      by_cases e : ls_gd (ls_w1 w sl gu q r) lv ≤ 1
      · have hw12 : ∀ l, ls_w2 w sl gu lv q r l = ls_w1 w sl gu q r l := fun l => by
          show ls_w1 w sl gu q r l / ls_gd (ls_w1 w sl gu q r) lv = _
          rw [show ls_gd (ls_w1 w sl gu q r) lv = 1 by omega, Nat.div_one]
        refine ⟨_, X (ift ((lg_le _ _).mpr ((pk_lLE (b := 1) (by omega) (by omega)).mpr e)) (hn M2)), M2, rfl, hd2, lc_Tb_w T0 (fun l hl => ?_)⟩
        show (if l < i + 1 then ls_w2 w sl gu lv q r l else ls_w1 w sl gu q r l) = if l < i then ls_w2 w sl gu lv q r l else ls_w1 w sl gu q r l
        rw [hw12, ite_self, ite_self]
      · have hne : ¬ lN (ls_gd (ls_w1 w sl gu q r) lv) = lN 0 := fun q => by have := (pk_lEQ (by omega) (by omega)).mp q; omega
        have T3 := lc_Tb_L (i := i) (x := ls_w2 w sl gu lv q r i) (v := fun l => if l < i + 1 then ls_w2 w sl gu lv q r l else ls_w1 w sl gu q r l) T0 (fun l hl => by
          show (if l < i + 1 then ls_w2 w sl gu lv q r l else ls_w1 w sl gu q r l) = if l = i then ls_w2 w sl gu lv q r i else (if l < i then ls_w2 w sl gu lv q r l else ls_w1 w sl gu q r l)
          by_cases e : l = i
          · subst e; rw [if_pos (by omega), if_pos rfl]
          · rw [if_neg e]
            by_cases e2 : l < i
            · rw [if_pos e2, if_pos (by omega)]
            · rw [if_neg e2, if_neg (by omega)])
        exact ⟨_, X (iff_ (fun q => e ((pk_lLE (by omega) (by omega)).mp ((lg_le (lN (ls_gd (ls_w1 w sl gu _ r) lv)) (lN 1)).mp q))) (bx (pfR k1 r1) (bx (paL k2 (by omega) (by omega) ei) (bx (a := lN (ls_w2 w sl gu lv q r i)) ((if_neg hne).trans (congrArg some (pk_lDiv (by omega) (by omega) (by omega)))) (bx (pe_tL _ k2 (by omega) (by omega)) (hn _)))))), _, rfl, lc_di_L hd2 (Or.inr rfl) _ _, T3⟩) (by
      rintro x ⟨M2, rfl, hd2, T2⟩
      have T2 := lc_Tb_w (v := ls_w2 w sl gu lv q r) T2 (fun l hl => (if_pos hl).symm)
      obtain ⟨k1, r1, k2, e1, e2, e3, e4, e5, -, hwl⟩ := id T2
      have T3 := lc_Tb_4 T2 (as + 1)
      have hd3 : lc_di (lc_tc2 n) M (mm_sI M2 (n + 16) 4 (nI (as + 1))) := lc_di_I hd2 (Or.inl rfl) _ _
      have ew : mm_pI M2 (some (n + 16)) 8 4 (nI as + 1) = some (mm_sI M2 (n + 16) 4 (nI (as + 1))) := by rw [nI_1]; exact pe_pI 4 _ k1
      generalize mm_sI M2 (n + 16) 4 (nI (as + 1)) = M3 at T3 hd3 ew
      have k3 := T3.1
      have X : ∀ {z}, (if nI 6 ≤ nI (as + 1) then f_X7_hear_133 M3 (some (n + 16)) else f_X7_hear_126 M3 (some (n + 16)) (some (n + 16))) = some z → f_X7_hear_64 M2 (some (n + 16)) (lN (ls_gd (ls_w1 w sl gu q r) lv)) (nI lv) = some (.inr z) := fun q => bx (pfI k1 e1) (ift (nI_le (Nat.le_refl _) (by omega)) (mpx (bx (pfI k1 e4) (bx ew (bx (pfI k3 T3.2.2.2.2.2.2.1) q)))))
      have fin : ∀ x, (nI x = 0 ∨ nI x = 1) → f_X7_hear_138 M3 (some (n + 16)) (nI x) = some (mm_sI M3 (n + 16) 5 (nI x)) := fun x hx => bx (pe_pZ 5 k3 hx) rfl
      by_cases h5 : as + 1 = 6
      · have eo : ls_ov (as + 1) lv (ls_w2 w sl gu lv q r) = 1 := if_pos h5
        rw [eo]
        exact ⟨_, X (ift (by rw [h5]; exact nI_le (Nat.le_refl _) (by omega)) (fin 1 (Or.inr rfl))), lc_di_I hd3 (Or.inl rfl) _ _, lc_Tb_5 T3 1⟩
      · have hc := cl_isClear T3 (fun l hl => Nat.le_trans (b2 l hl).2 h6)
        have eo : ls_ov (as + 1) lv (ls_w2 w sl gu lv q r) = if ls_mx (ls_w2 w sl gu lv q r) lv / 9 < ls_sm (ls_w2 w sl gu lv q r) lv - ls_mx (ls_w2 w sl gu lv q r) lv then 0 else 1 := if_neg h5
        rw [eo]
        by_cases hcl : ls_mx (ls_w2 w sl gu lv q r) lv / 9 < ls_sm (ls_w2 w sl gu lv q r) lv - ls_mx (ls_w2 w sl gu lv q r) lv
        · rw [if_pos hcl] at hc ⊢
          exact ⟨_, X (iff_ (nI_ge (by omega) (by omega)) (bx (pe_rc k3) (bx hc (ift rfl (fin 0 (Or.inl rfl)))))), lc_di_I hd3 (Or.inl rfl) _ _, lc_Tb_5 T3 0⟩
        · rw [if_neg hcl] at hc ⊢
          exact ⟨_, X (iff_ (nI_ge (by omega) (by omega)) (bx (pe_rc k3) (bx hc (iff_ ne10 (fin 1 (Or.inr rfl)))))), lc_di_I hd3 (Or.inl rfl) _ _, lc_Tb_5 T3 1⟩)
    obtain ⟨k1, r1, k2, e1, -⟩ := T1
    exact ⟨M2, bx (pfI k1 e1) (ift (nI_le (Nat.le_refl _) (by omega)) (mpx hy)), hd2, T2⟩
theorem lc_tst (h : lc n σ B M) (hd : lc_di (lc_tc2 n) M M1) (hs : ∀ f, f < 38 ∨ 43 < f → τ f = σ f) (hb : lc_Ib n τ M1) (hcc : lc_Ic n τ M1) : lc n τ B M1 := by
  obtain ⟨i1, i2, i3, i4, i5, i6, i7, i8, i9, ia, ib, ic⟩ := id h.2.1
  refine lc_fr h hd (fun a ha => by rcases ha with rfl | rfl <;> omega) ⟨by rw [hs 3 (by omega)], hs 0 (by omega), by rw [hs 28 (by omega)], hs 1 (by omega), hs 2 (by omega), fun f a b => hs f (by omega)⟩ ⟨?_, ?_, lc_t3 i3 hd (by unfold lc_tc2; omega) (by unfold lc_tc2; omega), ?_, ?_, ?_, ?_, hb, hcc⟩
  · unfold lc_I1
    rw [hs 4 (by omega), hs 6 (by omega), hs 7 (by omega)]
    exact lc_t1 i1 hd (by unfold lc_tc2; omega)
  · unfold lc_I2
    rw [hs 5 (by omega)]
    exact lc_t2 i2 hd (by unfold lc_tc2; omega)
  · unfold lc_I4
    rw [hs 3 (by omega), hs 28 (by omega)]
    exact lc_t4 i4 hd (fun p hp => by have := lc_lo_ne hp hp; unfold lc_tc2; omega) (by unfold lc_tc2; omega) (by unfold lc_tc2; omega)
  · unfold lc_I5
    rw [hs 8 (by omega), hs 10 (by omega)]
    exact lc_t5 i5 hd (fun p hp => by have := lc_lo_ne (show p < 5 by omega) (show p < 5 by omega); unfold lc_tc2; omega)
  · unfold lc_I6
    rw [hs 9 (by omega), hs 10 (by omega)]
    exact lc_t6 i6 hd (fun p hp => by have := lc_lo_ne (show p < 5 by omega) (show p < 5 by omega); unfold lc_tc2; omega)
  · unfold lc_Ia
    rw [hs 37 (by omega), hs 36 (by omega), hs 35 (by omega)]
    exact lc_ta ia hd (by unfold lc_tc2; omega) (by unfold lc_tc2; omega) (by unfold lc_tc2; omega)
theorem ls_G_6 (h : ls_G k σ) (hs : ∀ f, f < 38 ∨ 43 < f → τ f = σ f) (h6 : ls_O6 τ) : ls_G k τ := by
  obtain ⟨g1, g2, g3, g4, g5, -, g7, g8⟩ := h
  have epl : ∀ q, ls_pl τ q ↔ ls_pl σ q := fun q => by unfold ls_pl; rw [hs 3 (by omega), hs 0 (by omega)]
  have eat : ∀ q, ls_at τ q = ls_at σ q := fun q => by
    unfold ls_at
    rw [hs 13 (by omega), hs 14 (by omega), hs 15 (by omega), hs 16 (by omega), hs 17 (by omega)]
  refine ⟨?_, ?_, fun q hq i hi => ?_, fun q hq => ?_, ?_, h6, ?_, fun q hq i hi => ?_⟩
  · unfold ls_O1
    rw [hs 0 (by omega), hs 1 (by omega), hs 2 (by omega), hs 3 (by omega)]
    exact g1
  · unfold ls_O2
    rw [hs 4 (by omega), hs 5 (by omega), hs 6 (by omega), hs 7 (by omega), hs 8 (by omega)]
    exact g2
  · rw [eat, hs 8 (by omega)]
    exact g3 q hq i hi
  · rw [hs 10 (by omega), hs 9 (by omega), hs 3 (by omega)]
    exact ⟨(g4 q hq).1, fun i hi => (epl _).mpr ((g4 q hq).2.1 i hi), (g4 q hq).2.2⟩
  · have ew : ∀ i, ls_was τ i = ls_was σ i := fun i => by
      unfold ls_was
      rw [hs 23 (by omega), hs 24 (by omega), hs 25 (by omega), hs 26 (by omega), hs 27 (by omega)]
    unfold ls_O5
    rw [hs 28 (by omega), hs 18 (by omega), hs 19 (by omega), hs 20 (by omega), hs 21 (by omega), hs 22 (by omega), hs 8 (by omega)]
    refine ⟨g5.1, fun i hi => ?_⟩
    have g := g5.2 i hi
    rw [ew i]
    exact ⟨g.1, (epl _).mpr g.2.1, g.2.2⟩
  · unfold ls_O7
    rw [hs 11 (by omega), hs 12 (by omega)]
    exact g7
  · rw [eat, hs 11 (by omega), hs 12 (by omega)]
    exact ⟨(g8 q hq i hi).1, fun z => (g8 q hq i hi).2 (fun y => z ((epl i).mpr y))⟩
end
