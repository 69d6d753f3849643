-- what an evening is, in numbers
theorem ls_ip_hi (f : Nat → Nat) (g : Nat) : ∀ m i, ls_ip f g m ≤ i → i < m → g < f i
  | 0, i, _, h => absurd h (Nat.not_lt_zero i)
  | m + 1, i, h1, h2 => by
    unfold ls_ip at h1
    split at h1
    · by_cases e : i = m
      · rw [e]; assumption
      · exact ls_ip_hi f g m i h1 (by omega)
    · omega
theorem ls_ip_lo (f : Nat → Nat) (g : Nat) : ∀ m, 0 < ls_ip f g m → f (ls_ip f g m - 1) ≤ g
  | 0, h => absurd h (Nat.not_lt_zero 0)
  | m + 1, h => by
    have ih := ls_ip_lo f g m
    unfold ls_ip at h ⊢
    by_cases e : g < f m
    · rw [if_pos e] at h ⊢
      exact ih h
    · rw [if_neg e]
      show f (m + 1 - 1) ≤ g
      rw [show m + 1 - 1 = m by omega]
      omega
/-- the places up to Q that have a first day, by first day and place -/
def ls_so (E : Nat → Nat) (Q C : Nat) (P F : Nat → Nat) : Prop := (∀ j, j < C → P j < Q ∧ E (P j) = F j + 1 ∧ F j ≤ 60) ∧ (∀ j, j < C → ∀ i, i < j → F i < F j ∨ (F i = F j ∧ P i < P j)) ∧ ∀ q, q < Q → 0 < E q → ∃ j, j < C ∧ P j = q
section
variable {E P F : Nat → Nat} {Q C : Nat}
theorem ls_so_F (h : ls_so E Q C P F) {i j : Nat} (hij : i ≤ j) (hj : j < C) : F i ≤ F j := by
  rcases Nat.lt_or_eq_of_le hij with h1 | h1
  · rcases h.2.1 j hj i h1 with h2 | h2 <;> omega
  · rw [h1]; exact Nat.le_refl _
theorem ls_so_P (h : ls_so E Q C P F) {i j : Nat} (hij : i < j) (hj : j < C) : P i ≠ P j := fun e => by
  have a := (h.1 i (by omega)).2.1
  have b := (h.1 j hj).2.1
  rw [e] at a
  rcases h.2.1 j hj i hij with h2 | h2 <;> omega
theorem ls_so_C (h : ls_so E Q C P F) : C ≤ Q := ls_php Q C P (fun i hi => (h.1 i hi).1) (fun i hi j hj => (ls_so_P h hj hi).symm)
theorem ls_so_ip (h : ls_so E Q C P F) {i d : Nat} (hi : i < C) : i < ls_ip F d C ↔ F i ≤ d := by
  constructor
  · intro h1
    have := ls_ip_lo F d C (by omega)
    have hb := ls_ip_b F d C
    have := ls_so_F h (i := i) (j := ls_ip F d C - 1) (by omega) (by omega)
    omega
  · intro h1
    rcases Nat.lt_or_ge i (ls_ip F d C) with h2 | h2
    · exact h2
    · have := ls_ip_hi F d C i h2 hi
      omega
theorem ls_so_0 (h : ls_so E Q C P F) (h0 : E Q = 0) : ls_so E (Q + 1) C P F := ⟨fun j hj => ⟨by have := (h.1 j hj).1; omega, (h.1 j hj).2⟩, h.2.1, fun q hq he => h.2.2 q (by
  by_cases e : q = Q
  · rw [e, h0] at he; omega
  · omega) he⟩
theorem ls_so_in (h : ls_so E Q C P F) {f : Nat} (h0 : E Q = f + 1) (hf : f ≤ 60) : ls_so E (Q + 1) (C + 1) (ls_in P Q (ls_ip F f C)) (ls_in F f (ls_ip F f C)) := by
  have hb := ls_ip_b F f C
  have hip := fun {i} (hi : i < C) => ls_so_ip h (d := f) hi
  refine ⟨fun j hj => ?_, fun j hj i hij => ?_, fun q hq he => ?_⟩
  · rcases Nat.lt_trichotomy j (ls_ip F f C) with h1 | h1 | h1
    · rw [ls_in_lt _ _ h1, ls_in_lt _ _ h1]
      have := h.1 j (by omega)
      exact ⟨by omega, this.2⟩
    · rw [h1, ls_in_at, ls_in_at]
      exact ⟨by omega, h0, hf⟩
    · rw [ls_in_gt _ _ h1, ls_in_gt _ _ h1]
      have := h.1 (j - 1) (by omega)
      exact ⟨by omega, this.2⟩
  · rcases Nat.lt_trichotomy j (ls_ip F f C) with h1 | h1 | h1
    · rw [ls_in_lt _ _ h1, ls_in_lt _ _ h1, ls_in_lt _ _ (show i < ls_ip F f C by omega), ls_in_lt _ _ (show i < ls_ip F f C by omega)]
      exact h.2.1 j (by omega) i hij
    · rw [h1, ls_in_at, ls_in_at, ls_in_lt _ _ (show i < ls_ip F f C by omega), ls_in_lt _ _ (show i < ls_ip F f C by omega)]
      have a := (hip (i := i) (by omega)).mp (by omega)
      have b := (h.1 i (by omega)).1
      omega
    · rw [ls_in_gt _ _ h1, ls_in_gt _ _ h1]
      have a := ls_ip_hi F f C (j - 1) (by omega) (by omega)
      rcases Nat.lt_trichotomy i (ls_ip F f C) with h2 | h2 | h2
      · rw [ls_in_lt _ _ h2, ls_in_lt _ _ h2]
        exact h.2.1 (j - 1) (by omega) i (by omega)
      · rw [h2, ls_in_at, ls_in_at]
        exact Or.inl a
      · rw [ls_in_gt _ _ h2, ls_in_gt _ _ h2]
        exact h.2.1 (j - 1) (by omega) (i - 1) (by omega)
  · by_cases e : q = Q
    · exact ⟨ls_ip F f C, by omega, by rw [ls_in_at, e]⟩
    · obtain ⟨j, hj, hp⟩ := h.2.2 q (by omega) he
      by_cases h1 : j < ls_ip F f C
      · exact ⟨j, by omega, by rw [ls_in_lt _ _ h1]; exact hp⟩
      · exact ⟨j + 1, by omega, by rw [ls_in_gt _ _ (by omega), Nat.add_sub_cancel]; exact hp⟩
/-- how many are put ahead of day d, at most g a day -/
def ls_np (F : Nat → Nat) (C g : Nat) : Nat → Nat
  | 0 => 0
  | d + 1 => min (ls_ip F d C) (ls_np F C g d + g)
theorem ls_np_s (F : Nat → Nat) (C g d : Nat) : ls_np F C g (d + 1) = min (ls_ip F d C) (ls_np F C g d + g) := rfl
theorem ls_ip_mono (h : ls_so E Q C P F) {d e : Nat} (hd : d ≤ e) : ls_ip F d C ≤ ls_ip F e C := by
  have hb := ls_ip_b F d C
  rcases Nat.lt_or_ge (ls_ip F e C) (ls_ip F d C) with h1 | h1
  · have a := (ls_so_ip h (i := ls_ip F e C) (d := d) (by omega)).mp h1
    have b := (ls_so_ip h (i := ls_ip F e C) (d := e) (by omega)).mpr (by omega)
    omega
  · exact h1
theorem ls_np_A (h : ls_so E Q C P F) (g : Nat) : ∀ d, ls_np F C g d ≤ ls_ip F d C
  | 0 => Nat.zero_le _
  | d + 1 => by
    have := ls_ip_mono h (d := d) (e := d + 1) (by omega)
    rw [ls_np_s]
    omega
theorem ls_np_1 (h : ls_so E Q C P F) (g d : Nat) : ls_np F C g d ≤ ls_np F C g (d + 1) := by
  have := ls_np_A h g d
  rw [ls_np_s]
  omega
theorem ls_np_C (h : ls_so E Q C P F) (g d : Nat) : ls_np F C g d ≤ C := Nat.le_trans (ls_np_A h g d) (ls_ip_b F d C)
theorem ls_np_m (h : ls_so E Q C P F) (g : Nat) {d e : Nat} (hd : d ≤ e) : ls_np F C g d ≤ ls_np F C g e := by
  induction hd with
  | refl => exact Nat.le_refl _
  | step _ ih => exact Nat.le_trans ih (ls_np_1 h g _)
theorem ls_np_g (F : Nat → Nat) (C : Nat) {g g2 : Nat} (hg : g ≤ g2) : ∀ d, ls_np F C g d ≤ ls_np F C g2 d
  | 0 => Nat.le_refl _
  | d + 1 => by
    have := ls_np_g F C hg d
    rw [ls_np_s, ls_np_s]
    omega
/-- all fit, each at most w behind its first day -/
def ls_fit (F : Nat → Nat) (C w g : Nat) : Prop := ∀ j, j < C → j < ls_np F C g (F j + w + 1)
theorem ls_fit_g {w g g2 : Nat} (hg : g ≤ g2) (h : ls_fit F C w g) : ls_fit F C w g2 := fun j hj => Nat.lt_of_lt_of_le (h j hj) (ls_np_g F C hg _)
theorem ls_fit_C (h : ls_so E Q C P F) (w : Nat) : ls_fit F C w C := fun j hj => by
  rw [ls_np_s]
  have a := (ls_so_ip h (i := j) (d := F j + w) hj).mpr (by omega)
  have b := ls_ip_b F (F j + w) C
  omega
/-- a day on which what is due to be put has waited too long -/
def ls_bad (F : Nat → Nat) (C w g d : Nat) : Prop := ls_np F C g d < ls_np F C g (d + 1) ∧ F (ls_np F C g d) + w < d
theorem ls_fit_bad (h : ls_so E Q C P F) {w g : Nat} (hf : ls_fit F C w g) (d : Nat) : ¬ ls_bad F C w g d := fun hb => by
  have c := ls_np_C h g (d + 1)
  have a := hf (ls_np F C g d) (by have := hb.1; omega)
  have b := ls_np_m h g (d := F (ls_np F C g d) + w + 1) (e := d) (by have := hb.2; omega)
  omega
theorem ls_fit_81 (h : ls_so E Q C P F) {w g : Nat} (hw : w ≤ 20) (hf : ls_fit F C w g) : ls_np F C g 81 = C := by
  have c := ls_np_C h g 81
  by_cases h0 : C = 0
  · omega
  · have a := hf (C - 1) (by omega)
    have b := ls_np_m h g (d := F (C - 1) + w + 1) (e := 81) (by have := (h.1 (C - 1) (by omega)).2.2; omega)
    omega
theorem ls_np_d (h : ls_so E Q C P F) (g j : Nat) : ∀ D, j < ls_np F C g D → ∃ d, d < D ∧ ls_np F C g d ≤ j ∧ j < ls_np F C g (d + 1)
  | 0, h => absurd h (Nat.not_lt_zero j)
  | D + 1, hj => by
    by_cases e : j < ls_np F C g D
    · obtain ⟨d, h1, h2⟩ := ls_np_d h g j D e
      exact ⟨d, by omega, h2⟩
    · exact ⟨D, by omega, by omega, hj⟩
theorem ls_bad_fit (h : ls_so E Q C P F) {w g : Nat} (hb : ∀ d, d < 81 → ¬ ls_bad F C w g d) (hC : ls_np F C g 81 = C) : ls_fit F C w g := fun j hj => by
  obtain ⟨d, h1, h2, h3⟩ := ls_np_d h g j 81 (by omega)
  have a := ls_so_F h h2 hj
  have b : ¬ (F (ls_np F C g d) + w < d) := fun z => hb d h1 ⟨by omega, z⟩
  have := ls_np_m h g (d := d + 1) (e := F j + w + 1) (by omega)
  omega
/-- what is put on the day d is bad from the first on, or not at all -/
theorem ls_bad_j (h : ls_so E Q C P F) {w g d j : Nat} (hb : ¬ ls_bad F C w g d) (h1 : ls_np F C g d ≤ j) (h2 : j < ls_np F C g (d + 1)) : d ≤ F j + w := by
  have c := ls_np_C h g (d + 1)
  have a := ls_so_F h h1 (by omega)
  have b : ¬ (F (ls_np F C g d) + w < d) := fun z => hb ⟨by omega, z⟩
  omega
theorem ls_least_u {p : Nat → Prop} {a b : Nat} (ha : p a ∧ ∀ g, g < a → ¬ p g) (hb : p b ∧ ∀ g, g < b → ¬ p g) : a = b := by
  rcases Nat.lt_trichotomy a b with h | h | h
  · exact absurd ha.1 (hb.2 a h)
  · exact h
  · exact absurd hb.1 (ha.2 b h)
end
/-- the first day of a place, from TODAY on, and one; 0: there is none -/
def ls_ev (σ : ls_S) (p q : Nat) : Nat := if ls_pl σ q ∧ 0 < (ls_at σ (480 * p + q)).1 ∧ (ls_at σ (480 * p + q)).2.2.2.2 < 8 ∧ ls_fd (ls_at σ (480 * p + q)) (σ 8 p) ≤ σ 8 p + 60 then ls_fd (ls_at σ (480 * p + q)) (σ 8 p) - σ 8 p + 1 else 0
