theorem ls_php : ∀ (N m : Nat) (f : Nat → Nat), (∀ i, i < m → f i < N) → (∀ i, i < m → ∀ j, j < i → f i ≠ f j) → m ≤ N
  | 0, m, f, h, _ => by
    rcases Nat.eq_zero_or_pos m with h0 | h0
    · omega
    · exact absurd (h 0 h0) (Nat.not_lt_zero _)
  | N + 1, m, f, h, hd => by
    by_cases he : ∃ i, i < m ∧ f i = N
    · obtain ⟨i0, h0, e0⟩ := he
      have hne : ∀ i j, i < m → j < m → i ≠ j → f i ≠ f j := fun i j hi hj hij => by
        rcases Nat.lt_or_gt_of_ne hij with q | q
        · exact fun e => hd j hj i q e.symm
        · exact hd i hi j q
      have := ls_php N (m - 1) (fun i => if i < i0 then f i else f (i + 1)) (fun i hi => by
        show (if i < i0 then f i else f (i + 1)) < N
        split
        · have a := h i (by omega)
          have b := hne i i0 (by omega) h0 (by omega)
          omega
        · have a := h (i + 1) (by omega)
          have b := hne (i + 1) i0 (by omega) h0 (by omega)
          omega) (fun i hi j hj => by
        show (if i < i0 then f i else f (i + 1)) ≠ (if j < i0 then f j else f (j + 1))
        split <;> split <;> exact hne _ _ (by omega) (by omega) (by omega))
      omega
    · have := ls_php N m f (fun i hi => by
        have a := h i hi
        have b : f i ≠ N := fun e => he ⟨i, hi, e⟩
        omega) hd
      omega
theorem ls_sm_eq {f : Nat → Nat} : ∀ {N : Nat}, (∀ j, j < N → f j ≤ 1) → (ls_sm f N = N ↔ ∀ j, j < N → f j = 1)
  | 0, _ => ⟨fun _ j hj => absurd hj (Nat.not_lt_zero j), fun _ => rfl⟩
  | N + 1, h => by
    have a := ls_sm_le (f := f) (N := N) (fun j hj => h j (by omega))
    have b := h N (by omega)
    have ih := ls_sm_eq (f := f) (N := N) (fun j hj => h j (by omega))
    have e : ls_sm f (N + 1) = ls_sm f N + f N := rfl
    rw [e]
    constructor
    · intro hs j hj
      by_cases hjN : j = N
      · subst hjN; omega
      · exact ih.mp (by omega) j (by omega)
    · intro hs
      rw [ih.mpr (fun j hj => hs j (by omega)), hs N (by omega)]
-- a thing put into a row, ahead of all that are greater
def ls_ip (f : Nat → Nat) (g : Nat) : Nat → Nat
  | 0 => 0
  | a + 1 => if g < f a then ls_ip f g a else a + 1
theorem ls_ip_b (f : Nat → Nat) (g : Nat) : ∀ a, ls_ip f g a ≤ a
  | 0 => Nat.le_refl _
  | a + 1 => by
    have := ls_ip_b f g a
    unfold ls_ip
    split <;> omega
def ls_in (r : Nat → Nat) (x a : Nat) : Nat → Nat := fun i => if i < a then r i else if i = a then x else r (i - 1)
theorem ls_in_lt (r : Nat → Nat) (x : Nat) {a i : Nat} (h : i < a) : ls_in r x a i = r i := if_pos h
theorem ls_in_at (r : Nat → Nat) (x a : Nat) : ls_in r x a a = x := (if_neg (Nat.lt_irrefl a)).trans (if_pos rfl)
theorem ls_in_gt (r : Nat → Nat) (x : Nat) {a i : Nat} (h : a < i) : ls_in r x a i = r (i - 1) := (if_neg (by omega)).trans (if_neg (by omega))
/-- the chance of a place, as it is told -/
abbrev ls_pc (σ : ls_S) (p q : Nat) : Nat := ls_c0h (ls_at σ (480 * p + q)) (σ 8 p)
/-- THE ROW's first part, by how many cards were gone through -/
def ls_dq (σ : ls_S) (p : Nat) : Nat → Nat × (Nat → Nat)
  | 0 => (0, fun _ => 0)
  | c + 1 => match ls_ds σ (480 * p + 4 * c) (σ 8 p) 1 (σ 0 c) with
    | none => ls_dq σ p c
    | some y => ((ls_dq σ p c).1 + 1, ls_in (ls_dq σ p c).2 (4 * c + y.1) (ls_ip (fun i => ls_pc σ p ((ls_dq σ p c).2 i)) y.2 (ls_dq σ p c).1))
abbrev ls_rdy (σ : ls_S) (p c : Nat) : Prop := ∀ j, j < σ 2 c → ls_knc σ p (σ 1 (4 * c + j))
abbrev ls_fc (σ : ls_S) (p n0 : Nat) (r0 : Nat → Nat) (m c : Nat) : Prop := m - n0 < σ 7 0 ∧ ls_ff σ (480 * p + 4 * c) (σ 0 c) 0 < σ 0 c ∧ (∀ j, j < n0 → r0 j / 4 ≠ c) ∧ ls_rdy σ p c
/-- THE ROW, by how many cards were gone through -/
def ls_fq (σ : ls_S) (p n0 : Nat) (r0 : Nat → Nat) : Nat → Nat × (Nat → Nat)
  | 0 => (n0, r0)
  | c + 1 => if ls_fc σ p n0 r0 (ls_fq σ p n0 r0 c).1 c then ((ls_fq σ p n0 r0 c).1 + 1, fun i => if i = (ls_fq σ p n0 r0 c).1 then 4 * c + ls_ff σ (480 * p + 4 * c) (σ 0 c) 0 else (ls_fq σ p n0 r0 c).2 i) else ls_fq σ p n0 r0 c
theorem ls_ds_e (σ : ls_S) (b on md : Nat) : ∀ k x, ls_ds σ b on md k = some x → x.2 = ls_ch (ls_at σ (b + x.1)) on ∧ ls_due (ls_at σ (b + x.1)) on
  | 0, x, h => by cases h
  | k + 1, x, h => by
    unfold ls_ds at h
    split at h
    · rename_i hd
      cases hk : ls_ds σ b on md k with
      | none =>
        rw [hk] at h
        cases h
        exact ⟨rfl, hd.1⟩
      | some y =>
        rw [hk] at h
        have := ls_ds_e σ b on md k y hk
        simp only at h
        split at h
        · cases h
          exact ⟨rfl, hd.1⟩
        · cases h
          exact this
    · exact ls_ds_e σ b on md k x h
theorem ls_ds_c {σ τ : ls_S} (h : ∀ q, ls_at τ q = ls_at σ q) (h12 : τ 12 = σ 12) (b on md : Nat) : ∀ k, ls_ds τ b on md k = ls_ds σ b on md k
  | 0 => rfl
  | k + 1 => by
    unfold ls_ds
    rw [ls_ds_c h h12 b on md k, h, h12]
theorem ls_ff_c {σ τ : ls_S} (h13 : τ 13 = σ 13) (h12 : τ 12 = σ 12) (b : Nat) : ∀ k i, ls_ff τ b k i = ls_ff σ b k i
  | 0, _ => rfl
  | k + 1, i => by
    unfold ls_ff
    rw [ls_ff_c h13 h12 b k (i + 1), h12, h13]
section
variable {n k : Nat} {σ τ υ : ls_S} {B M M1 : mm_M}
/-- the first part is well -/
theorem ls_dq_ok (h1 : ls_O1 σ) (p : Nat) : ∀ c, c ≤ σ 3 0 → (ls_dq σ p c).1 ≤ c ∧ (∀ i, i < (ls_dq σ p c).1 → (ls_dq σ p c).2 i / 4 < c ∧ ls_pl σ ((ls_dq σ p c).2 i)) ∧ ∀ i, i < (ls_dq σ p c).1 → ∀ j, j < i → (ls_dq σ p c).2 i / 4 ≠ (ls_dq σ p c).2 j / 4
  | 0, _ => ⟨Nat.le_refl _, fun i hi => absurd hi (Nat.not_lt_zero i), fun i hi => absurd hi (Nat.not_lt_zero i)⟩
  | c + 1, hc => by
    obtain ⟨a1, a2, a3⟩ := ls_dq_ok h1 p c (by omega)
    have h4 := (h1.2.1 c (by omega)).2
    unfold ls_dq
    cases hy : ls_ds σ (480 * p + 4 * c) (σ 8 p) 1 (σ 0 c) with
    | none => exact ⟨by show (ls_dq σ p c).1 ≤ c + 1; omega, fun i hi => ⟨Nat.lt_succ_of_lt (a2 i hi).1, (a2 i hi).2⟩, a3⟩
    | some y =>
      have hb := ls_ds_b _ _ _ _ _ _ hy
      generalize ls_dq σ p c = q at *
      obtain ⟨m, r⟩ := q
      simp only at *
      have ha := ls_ip_b (fun i => ls_pc σ p (r i)) y.2 m
      generalize ls_ip (fun i => ls_pc σ p (r i)) y.2 m = a at *
      have hx : (4 * c + y.1) / 4 = c := by omega
      have key : ∀ i, i < m + 1 → ls_in r (4 * c + y.1) a i = 4 * c + y.1 ∧ i = a ∨ (∃ j, j < m ∧ ls_in r (4 * c + y.1) a i = r j ∧ j = (if i < a then i else i - 1) ∧ i ≠ a) := fun i hi => by
        rcases Nat.lt_trichotomy i a with h | h | h
        · exact Or.inr ⟨i, by omega, ls_in_lt _ _ h, (if_pos h).symm, by omega⟩
        · subst h; exact Or.inl ⟨ls_in_at _ _ _, rfl⟩
        · exact Or.inr ⟨i - 1, by omega, ls_in_gt _ _ h, (if_neg (by omega)).symm, by omega⟩
      refine ⟨by omega, fun i hi => ?_, fun i hi j hj => ?_⟩
      · rcases key i hi with ⟨e, -⟩ | ⟨j, hj, e, -⟩
        · rw [e]
          refine ⟨by omega, ?_⟩
          show (4 * c + y.1) / 4 < σ 3 0 ∧ (4 * c + y.1) % 4 < σ 0 ((4 * c + y.1) / 4)
          rw [hx]
          exact ⟨by omega, by omega⟩
        · rw [e]
          exact ⟨by have := (a2 j hj).1; omega, (a2 j hj).2⟩
      · rcases key i hi with ⟨e, ei⟩ | ⟨i2, hi2, e, ei, eia⟩
        · rcases key j (by omega) with ⟨e', ej⟩ | ⟨j2, hj2, e', -⟩
          · omega
          · rw [e, e', hx]
            have := (a2 j2 hj2).1
            omega
        · rcases key j (by omega) with ⟨e', ej⟩ | ⟨j2, hj2, e', ej, eja⟩
          · rw [e, e', hx]
            have := (a2 i2 hi2).1
            omega
          · rw [e, e']
            refine a3 i2 hi2 j2 ?_
            rw [ei, ej]
            split <;> split <;> omega
/-- THE ROW is well -/
theorem ls_fq_ok (h1 : ls_O1 σ) (p : Nat) {n0 : Nat} {r0 : Nat → Nat} (h0 : (∀ i, i < n0 → ls_pl σ (r0 i)) ∧ ∀ i, i < n0 → ∀ j, j < i → r0 i / 4 ≠ r0 j / 4) : ∀ c, c ≤ σ 3 0 → n0 ≤ (ls_fq σ p n0 r0 c).1 ∧ (∀ i, i < n0 → (ls_fq σ p n0 r0 c).2 i = r0 i) ∧ (∀ i, n0 ≤ i → i < (ls_fq σ p n0 r0 c).1 → (ls_fq σ p n0 r0 c).2 i / 4 < c) ∧ ls_o4 σ (ls_fq σ p n0 r0 c).1 (ls_fq σ p n0 r0 c).2
  | 0, _ => ⟨Nat.le_refl _, fun _ _ => rfl, fun i a b => absurd b (Nat.not_lt.mpr a), ls_php _ _ (fun i => r0 i / 4) (fun i hi => (h0.1 i hi).1) h0.2, h0.1, h0.2⟩
  | c + 1, hc => by
    obtain ⟨a1, a2, a3, a4⟩ := ls_fq_ok h1 p h0 c (by omega)
    have h4 := (h1.2.1 c (by omega)).2
    unfold ls_fq
    by_cases hf : ls_fc σ p n0 r0 (ls_fq σ p n0 r0 c).1 c
    · rw [if_pos hf]
      obtain ⟨f1, f2, f3, f4⟩ := hf
      generalize ls_ff σ (480 * p + 4 * c) (σ 0 c) 0 = s at *
      generalize ls_fq σ p n0 r0 c = q at *
      obtain ⟨m, r⟩ := q
      simp only at *
      have hx : (4 * c + s) / 4 = c := by omega
      have hne : ∀ i, i < m → r i / 4 ≠ c := fun i hi => by
        by_cases hin : i < n0
        · rw [a2 i hin]; exact f3 i hin
        · have := a3 i (by omega) hi; omega
      have d1 : ∀ i, i < m + 1 → ls_pl σ (if i = m then 4 * c + s else r i) := fun i hi => by
        by_cases e : i = m
        · rw [if_pos e]
          show (4 * c + s) / 4 < σ 3 0 ∧ (4 * c + s) % 4 < σ 0 ((4 * c + s) / 4)
          rw [hx]
          exact ⟨by omega, by omega⟩
        · rw [if_neg e]; exact a4.2.1 i (by omega)
      have d2 : ∀ i, i < m + 1 → ∀ j, j < i → (if i = m then 4 * c + s else r i) / 4 ≠ (if j = m then 4 * c + s else r j) / 4 := fun i hi j hj => by
        rw [if_neg (show ¬ j = m by omega)]
        by_cases e : i = m
        · rw [if_pos e, hx]; exact fun q => hne j (by omega) q.symm
        · rw [if_neg e]; exact a4.2.2 i (by omega) j hj
      refine ⟨by omega, fun i hi => ?_, fun i a b => ?_, ls_php _ _ (fun i => (if i = m then 4 * c + s else r i) / 4) (fun i hi => (d1 i hi).1) d2, d1, d2⟩
      · rw [if_neg (by omega)]; exact a2 i hi
      · by_cases e : i = m
        · rw [if_pos e]; omega
        · rw [if_neg e]
          have := a3 i a (by omega)
          omega
    · rw [if_neg hf]
      exact ⟨a1, a2, fun i a b => by have := a3 i a b; omega, a4⟩
theorem ls_fq_stop (p : Nat) {n0 : Nat} {r0 : Nat → Nat} {c : Nat} (h : σ 7 0 ≤ (ls_fq σ p n0 r0 c).1 - n0) : ∀ j, ls_fq σ p n0 r0 (c + j) = ls_fq σ p n0 r0 c
  | 0 => rfl
  | j + 1 => by
    have ih := ls_fq_stop p h j
    show (if ls_fc σ p n0 r0 (ls_fq σ p n0 r0 (c + j)).1 (c + j) then _ else ls_fq σ p n0 r0 (c + j)) = _
    rw [ih, if_neg (fun q => by have := q.1; omega)]
/-- the state with another row -/
def ls_sr (σ : ls_S) (p m : Nat) (r : Nat → Nat) : ls_S := fun f j => if f = 10 ∧ j = p then m else if f = 9 ∧ 480 * p ≤ j ∧ j < 480 * p + 480 then r (j - 480 * p) else σ f j
theorem ls_sr_f (σ : ls_S) (p m : Nat) (r : Nat → Nat) {f : Nat} (h9 : f ≠ 9) (h10 : f ≠ 10) : ls_sr σ p m r f = σ f := by
  funext j
  unfold ls_sr
  rw [if_neg (fun z => h10 z.1), if_neg (fun z => h9 z.1)]
theorem ls_sr_10 (σ : ls_S) (p m : Nat) (r : Nat → Nat) : ls_sr σ p m r 10 p = m := if_pos ⟨rfl, rfl⟩
theorem ls_sr_9 (σ : ls_S) (p m : Nat) (r : Nat → Nat) {i : Nat} (hi : i < 480) : ls_sr σ p m r 9 (480 * p + i) = r i := by
  unfold ls_sr
  rw [if_neg (by omega), if_pos ⟨rfl, by omega, by omega⟩]
  congr 1; omega
theorem ls_sr_rs (σ : ls_S) {p : Nat} (m : Nat) (r : Nat → Nat) : ls_rs σ (ls_sr σ p m r) p := by
  refine ⟨fun f _ h9 h10 => ls_sr_f σ p m r h9 h10, fun q hq h4 => ⟨congrFun (ls_sr_f σ p m r (by omega) (by omega)) q, ?_, fun i hi => ?_⟩⟩
  · unfold ls_sr
    rw [if_neg (by omega), if_neg (by omega)]
  · unfold ls_sr
    rw [if_neg (by omega), if_neg (by omega)]
theorem lc_sr {p m : Nat} {r : Nat → Nat} (h : lc n σ B M) (hp : p < 4) (h4 : ls_O4 σ) (h1 : σ 3 0 ≤ 120) (hd : lc_dr n p M M1) (hw : lc_rw n M1 p m r) : lc n (ls_sr σ p m r) B M1 :=
  lc_row h hp hd.1 (ls_sr_rs σ m r) h4 h1 (by rw [hd.2, (h.2.1.2.2.2.2.1 p hp).1, ls_sr_f _ _ _ _ (by omega) (by omega)]) (by rw [hw.2.2.2.2.1, ls_sr_10]) (fun i hi => by
    rw [ls_sr_10] at hi
    rw [hw.2.2.2.2.2 i hi, ls_sr_9 _ _ _ _ (by have := hw.2.2.2.1; omega)])
theorem cl_chanceAt (h : lc n σ B M) (h1 : ls_O1 σ) {p q : Nat} (hp : p < 4) (hq : ls_pl σ q) (hok : ls_ok (ls_at σ (480 * p + q)) (σ 8 p)) (h8 : σ 8 p ≤ 100000) : f_X6_chanceAt M (some (n + lc_lo p)) (nI q) (some (n + 1)) = some (nI (ls_pc σ p q)) := by
  have np : p < 5 := by omega
  have hm := lc_memAt h h1 np hq.1 hq.2
  rw [show 4 * (q / 4) + q % 4 = q by omega] at hm
  have hv := lc_at_of h np hq.1 hq.2
  rw [show 480 * p + 4 * (q / 4) + q % 4 = 480 * p + q by omega] at hv
  exact bx (pe_rc (lc_kla h np)) (bx hm (iff_ (fun q => nomatch q) (bx (pfI (lc_kla h np) (h.2.1.2.2.2.2.1 p hp).1) (bx (pe_rc hv.1) (bx (lc_chanceOn hv (lc_cv_of h) hok (by omega)) rfl)))))
/-- the last of a row sinks to where it belongs -/
theorem cl_sinkLast {p m x : Nat} {r : Nat → Nat} (h : lc n σ B M) (hp : p < 4) (h1 : ls_O1 σ) (h4 : ls_O4 σ) (h3 : ls_O3 σ) (h8 : σ 8 p ≤ 100000) (hd : lc_dr n p M M1) (hw : lc_rw n M1 p (m + 1) (ls_in r x m)) (hr : ∀ i, i < m → ls_pl σ (r i)) (hx : ls_pl σ x) : ∃ M2, f_X6_sinkLast M1 (some (n + lc_lo p)) (some (n + 1)) = some M2 ∧ lc_dr n p M M2 ∧ lc_rw n M2 p (m + 1) (ls_in r x (ls_ip (fun i => ls_pc σ p (r i)) (ls_pc σ p x) m)) := by
  have h120 := h1.1
  have np : p < 5 := by omega
  have hm := hw.2.2.2.1
  obtain ⟨M2, hq, hd2, hw2⟩ := pe_loop (body := fun y : mm_M × Int32 => f_X6_sinkLast_7 y.1 (some (n + lc_lo p)) (some (n + 1)) y.2) (x := (M1, nI m)) (fun i y => ∃ M2 a, y = (M2, nI a) ∧ a + i = m ∧ lc_dr n p M M2 ∧ lc_rw n M2 p (m + 1) (ls_in r x a) ∧ ls_ip (fun i => ls_pc σ p (r i)) (ls_pc σ p x) a = ls_ip (fun i => ls_pc σ p (r i)) (ls_pc σ p x) m) (fun M2 => lc_dr n p M M2 ∧ lc_rw n M2 p (m + 1) (ls_in r x (ls_ip (fun i => ls_pc σ p (r i)) (ls_pc σ p x) m))) m ⟨M1, m, rfl, by omega, hd, hw, rfl⟩ (by
      rintro i y hi ⟨M2, a, rfl, ha, hd2, hw2, hip⟩
      cases a with
      | zero =>
        right
        exact ⟨M2, ift (show nI 0 ≤ 0 by decide) (mpx rfl), hd2, by rw [← hip]; exact hw2⟩
      | succ a =>
        have hl := lc_sr h hp h4 h120 hd2 hw2
        obtain ⟨k1, r1, k2, -, e1, e2⟩ := hw2
        have cx := cl_chanceAt (q := x) hl h1 hp hx (by
          have := h3 p hp x (by have := hx.1; omega)
          exact this) h8
        have ca := cl_chanceAt (q := r a) hl h1 hp (hr a (by omega)) (by
          have := h3 p hp (r a) (by have := (hr a (by omega)).1; omega)
          exact this) h8
        have ea1 : mm_I M2 (n + (lc_lo p + 2)) (a + 1) = nI x := by rw [e2 (a + 1) (by omega), ls_in_at]
        have ea : mm_I M2 (n + (lc_lo p + 2)) a = nI (r a) := by rw [e2 a (by omega), ls_in_lt _ _ (by omega)]
        have es : nI (a + 1) - 1 = nI a := nI_pred a
        have X : ∀ {z}, (if nI (ls_pc σ p x) < nI (ls_pc σ p (r a)) then f_X6_sinkLast_48 M2 (some (n + lc_lo p)) (some (n + 1)) (nI (a + 1)) else mm_mp (f_X6_sinkLast_47 M2)) = z → f_X6_sinkLast_7 M2 (some (n + lc_lo p)) (some (n + 1)) (nI (a + 1)) = z := fun q => iff_ (nI_nle (by omega) (by omega)) (bx (pfR k1 r1) (bx (pe_ln k2 (by omega)) (iff_ (nI_ge (b := 120) (by omega) (by omega)) (bx (pfR k1 r1) (bx (paI k2 (by omega) (by omega) ea1) (bx (pe_rc k1) (bx cx (bx (pfR k1 r1) (bx (a := nI (r a)) (by rw [es]; exact paI k2 (by omega) (by omega) ea) (bx (pe_rc k1) (bx ca q)))))))))))
        have cxb : ls_pc σ p x ≤ 1000 := by show ls_c0h _ _ ≤ 1000; unfold ls_c0h; split; omega; exact ls_F_le _
        have cab : ls_pc σ p (r a) ≤ 1000 := by show ls_c0h _ _ ≤ 1000; unfold ls_c0h; split; omega; exact ls_F_le _
        have hstep : ls_ip (fun i => ls_pc σ p (r i)) (ls_pc σ p x) (a + 1) = if ls_pc σ p x < ls_pc σ p (r a) then ls_ip (fun i => ls_pc σ p (r i)) (ls_pc σ p x) a else a + 1 := rfl
        by_cases hlt : ls_pc σ p x < ls_pc σ p (r a)
        · left
          rw [if_pos hlt] at hstep
          have hd3 := lc_dr_a (lc_dr_a hd2 (a + 1) (nI (r a))) a (nI x)
          refine ⟨(mm_sI (mm_sI M2 (n + (lc_lo p + 2)) (a + 1) (nI (r a))) (n + (lc_lo p + 2)) a (nI x), nI a), X (ift (nI_lt hlt (by omega)) (bx (pfR k1 r1) (bx (paI k2 (by omega) (by omega) ea1) (bx (pfR k1 r1) (bx (pfR k1 r1) (bx (a := nI (r a)) (by rw [es]; exact paI k2 (by omega) (by omega) ea) (bx (pe_tI _ k2 (show a + 1 < 120 by omega) (by omega)) (bx (pfR (M := mm_sI M2 (n + (lc_lo p + 2)) (a + 1) (nI (r a))) k1 r1) (bx (a := mm_sI (mm_sI M2 (n + (lc_lo p + 2)) (a + 1) (nI (r a))) (n + (lc_lo p + 2)) a (nI x)) (by rw [es]; exact pe_tI _ k2 (show a < 120 by omega) (by omega)) ?_))))))))), ⟨_, a, rfl, by omega, hd3, ⟨k1, r1, k2, by omega, ?_, fun j hj => ?_⟩, by rw [← hip, hstep]⟩, by omega⟩
          · show some (Sum.inl (_, nI (a + 1) + (-1))) = _
            rw [pk_m1]
          · rw [mm_II, if_neg (by omega), mm_II, if_neg (by omega)]
            exact e1
          · rw [mm_II, mm_II]
            by_cases ej : j = a
            · rw [if_pos ⟨rfl, ej⟩, ej, ls_in_at]
            · rw [if_neg (fun z => ej z.2)]
              by_cases ej2 : j = a + 1
              · rw [if_pos ⟨rfl, ej2⟩, ej2, ls_in_gt _ _ (by omega)]
                rfl
              · rw [if_neg (fun z => ej2 z.2), e2 j hj]
                by_cases ej3 : j < a
                · rw [ls_in_lt _ _ ej3, ls_in_lt _ _ (by omega)]
                · rw [ls_in_gt _ _ (by omega), ls_in_gt _ _ (by omega)]
        · right
          rw [if_neg hlt] at hstep
          exact ⟨M2, X (iff_ (nI_nlt (by omega) (by omega)) (mpx rfl)), hd2, by rw [← hip, hstep]; exact ⟨k1, r1, k2, by omega, e1, e2⟩⟩)
  refine ⟨M2, bx (pfI hw.1 hw.2.2.2.2.1) ?_, hd2, hw2⟩
  show f_X6_sinkLast_7w M1 _ _ (nI (m + 1) - 1) = _
  rw [nI_pred]
  exact hq
end
