theorem pe_cnt {σ ρ : Type} {body : σ → Option (σ ⊕ ρ)} (I : Nat → σ → Prop) (Q : ρ → Prop) (n : Nat) {x : σ} (h0 : I 0 x) (hs : ∀ i x, i < n → I i x → ∃ y, body x = some (.inl y) ∧ I (i + 1) y) (he : ∀ x, I n x → ∃ r, body x = some (.inr r) ∧ Q r) : ∃ r, mm_w body x = some r ∧ Q r :=
  pe_loop I Q n h0 (fun i x hi hx => by
    by_cases e : i = n
    · subst e; exact Or.inr (he x hx)
    · obtain ⟨y, h1, h2⟩ := hs i x (by omega) hx
      exact Or.inl ⟨y, h1, h2, by omega⟩)
theorem ls_ix2 (p i : Nat) : nI p * 480 + nI i = nI (480 * p + i) := by
  rw [show nI p * 480 = nI (p * 480) from pk_mul p 480, nI_add, Nat.mul_comm]
theorem ls_ix1 (p : Nat) : nI p * 480 = nI (480 * p) := by
  rw [show nI p * 480 = nI (p * 480) from pk_mul p 480, Nat.mul_comm]
theorem ls_ix4 (c s : Nat) : 4 * nI c + nI s = nI (4 * c + s) := by
  rw [show 4 * nI c = nI (4 * c) from pk_mul 4 c, nI_add]
-- what is left of a row when one thing goes
def ls_dk (r : Nat → Nat) (x : Nat) : Nat → Nat
  | 0 => 0
  | i + 1 => if r i = x then ls_dk r x i else ls_dk r x i + 1
def ls_dm (r : Nat → Nat) (x : Nat) : Nat → Nat → Nat
  | 0, j => j
  | i + 1, j => if r i = x then ls_dm r x i j else if j = ls_dk r x i then i else ls_dm r x i j
theorem ls_dk_b (r : Nat → Nat) (x : Nat) : ∀ i, ls_dk r x i ≤ i ∧ (∀ j, j < ls_dk r x i → ls_dm r x i j < i ∧ r (ls_dm r x i j) ≠ x) ∧ ∀ j l, j < l → l < ls_dk r x i → ls_dm r x i j < ls_dm r x i l
  | 0 => ⟨Nat.le_refl _, fun j h => absurd h (Nat.not_lt_zero j), fun j l _ h => absurd h (Nat.not_lt_zero l)⟩
  | i + 1 => by
    obtain ⟨h1, h2, h3⟩ := ls_dk_b r x i
    by_cases e : r i = x
    · have e1 : ls_dk r x (i + 1) = ls_dk r x i := if_pos e
      have e2 : ∀ j, ls_dm r x (i + 1) j = ls_dm r x i j := fun j => if_pos e
      rw [e1]
      refine ⟨by omega, fun j hj => ?_, fun j l hl h => ?_⟩
      · rw [e2]; have := h2 j hj; exact ⟨by omega, this.2⟩
      · rw [e2, e2]; exact h3 j l hl h
    · have e1 : ls_dk r x (i + 1) = ls_dk r x i + 1 := if_neg e
      have e2 : ∀ j, ls_dm r x (i + 1) j = if j = ls_dk r x i then i else ls_dm r x i j := fun j => if_neg e
      rw [e1]
      refine ⟨by omega, fun j hj => ?_, fun j l hl h => ?_⟩
      · rw [e2]
        split
        · exact ⟨by omega, e⟩
        · have := h2 j (by omega); exact ⟨by omega, this.2⟩
      · rw [e2, e2, if_neg (show ¬ j = ls_dk r x i by omega)]
        split
        · exact (h2 j (by omega)).1
        · exact h3 j l hl (by omega)
/-- where the first alone goes -/
theorem ls_dk_first {r : Nat → Nat} {m : Nat} (hd : ∀ i, 0 < i → i < m → r i ≠ r 0) : ∀ i, i < m → ls_dk r (r 0) (i + 1) = i ∧ ∀ j, j < i → ls_dm r (r 0) (i + 1) j = j + 1
  | 0, _ => ⟨if_pos rfl, fun j h => absurd h (Nat.not_lt_zero j)⟩
  | i + 1, hi => by
    obtain ⟨h1, h2⟩ := ls_dk_first hd i (by omega)
    have e : ¬ r (i + 1) = r 0 := hd (i + 1) (by omega) hi
    have e1 : ls_dk r (r 0) (i + 1 + 1) = ls_dk r (r 0) (i + 1) + 1 := if_neg e
    have e2 : ∀ j, ls_dm r (r 0) (i + 1 + 1) j = if j = ls_dk r (r 0) (i + 1) then i + 1 else ls_dm r (r 0) (i + 1) j := fun j => if_neg e
    refine ⟨by rw [e1, h1], fun j hj => ?_⟩
    rw [e2, h1]
    split
    · omega
    · exact h2 j (by omega)
-- a pupil's row in the class
def lc_rw (n : Nat) (M : mm_M) (p m : Nat) (r : Nat → Nat) : Prop := mm_k M (n + lc_lo p) = some (7, 0) ∧ mm_R M (n + lc_lo p) 1 = some (n + (lc_lo p + 2)) ∧ mm_k M (n + (lc_lo p + 2)) = some (12, 120) ∧ m ≤ 120 ∧ mm_I M (n + lc_lo p) 2 = nI m ∧ ∀ i, i < m → mm_I M (n + (lc_lo p + 2)) i = nI (r i)
abbrev lc_rc (n p : Nat) : Nat → Prop := fun a => a = n + lc_lo p ∨ a = n + (lc_lo p + 2)
/-- M1 is M but for the row of a pupil -/
def lc_dr (n p : Nat) (M M1 : mm_M) : Prop := lc_di (lc_rc n p) M M1 ∧ mm_I M1 (n + lc_lo p) 3 = mm_I M (n + lc_lo p) 3
theorem lc_dr_rf (n p : Nat) (M : mm_M) : lc_dr n p M M := ⟨lc_di_rf _ M, rfl⟩
theorem lc_dr_tr {n p : Nat} {M M1 M2 : mm_M} (h : lc_dr n p M M1) (h2 : lc_dr n p M1 M2) : lc_dr n p M M2 := ⟨lc_di_tr h.1 h2.1, h2.2.trans h.2⟩
theorem lc_dr_s {n p : Nat} {M M1 : mm_M} (h : lc_dr n p M M1) (v : Int32) : lc_dr n p M (mm_sI M1 (n + lc_lo p) 2 v) := ⟨lc_di_I h.1 (Or.inl rfl) _ _, by rw [mm_II, if_neg (by omega)]; exact h.2⟩
theorem lc_dr_a {n p : Nat} {M M1 : mm_M} (h : lc_dr n p M M1) (i : Nat) (v : Int32) : lc_dr n p M (mm_sI M1 (n + (lc_lo p + 2)) i v) := ⟨lc_di_I h.1 (Or.inr rfl) _ _, by rw [mm_II, if_neg (by omega)]; exact h.2⟩
section
variable {n p m : Nat} {M : mm_M} {r : Nat → Nat}
theorem cl_first (h : lc_rw n M p m r) (hm : 0 < m) : f_X6_first M (some (n + lc_lo p)) = some (nI (r 0)) := by
  obtain ⟨k1, r1, k2, h1, e1, e2⟩ := h
  exact bx (pfI k1 e1) (iff_ (nI_nle hm (by omega)) (bx (pfR k1 r1) (bx (paI (i := 0) k2 (by omega) (by omega) (e2 0 hm)) rfl)))
theorem cl_append (h : lc_rw n M p m r) (hm : m < 120) (x : Nat) : ∃ M1, f_X6_append M (some (n + lc_lo p)) (nI x) = some M1 ∧ lc_dr n p M M1 ∧ lc_rw n M1 p (m + 1) (fun i => if i = m then x else r i) := by
  obtain ⟨k1, r1, k2, h1, e1, e2⟩ := h
  refine ⟨mm_sI (mm_sI M (n + (lc_lo p + 2)) m (nI x)) (n + lc_lo p) 2 (nI (m + 1)), bx (pfI k1 e1) (bx (pfR k1 r1) (bx (pe_ln k2 (by omega)) (iff_ (nI_ge (b := 120) hm (by omega)) (bx (pfR k1 r1) (bx (pfI k1 e1) (bx (pe_tI _ k2 hm (by omega)) (bx (a := nI m) (pfI (M := mm_sI M (n + (lc_lo p + 2)) m (nI x)) k1 ?_) (bx (a := mm_sI (mm_sI M (n + (lc_lo p + 2)) m (nI x)) (n + lc_lo p) 2 (nI (m + 1))) ?_ rfl)))))))), lc_dr_s (lc_dr_a (lc_dr_rf n p M) _ _) _, k1, r1, k2, by omega, ?_, fun i hi => ?_⟩
  · rw [mm_II, if_neg (by omega)]
    exact e1
  · rw [nI_1]
    exact pe_pI 2 _ k1
  · rw [mm_II, if_pos ⟨rfl, rfl⟩]
  · rw [mm_II, if_neg (by omega), mm_II]
    by_cases e : i = m
    · rw [if_pos ⟨rfl, e⟩]
      exact (congrArg nI (if_pos e)).symm
    · rw [if_neg (fun q => e q.2)]
      exact (e2 i (by omega)).trans (congrArg nI (if_neg e)).symm
theorem cl_drop (h : lc_rw n M p m r) {x : Nat} (hx : x < 2 ^ 31) (hr : ∀ i, i < m → r i < 2 ^ 31) : ∃ M1, f_X6_drop M (some (n + lc_lo p)) (nI x) = some M1 ∧ lc_dr n p M M1 ∧ lc_rw n M1 p (ls_dk r x m) (fun j => r (ls_dm r x m j)) := by
  have h0 := h
  obtain ⟨k1, r1, k2, h1, e1, e2⟩ := h
  obtain ⟨M1, hM1, hd, hw⟩ := pe_cnt (body := fun y : mm_M × Int32 × Int32 => f_X6_drop_4 y.1 (some (n + lc_lo p)) (nI x) y.2.1 y.2.2) (x := (M, 0, 0))
    (fun i y => ∃ M1, y = (M1, nI (ls_dk r x i), nI i) ∧ lc_dr n p M M1 ∧ mm_I M1 (n + lc_lo p) 2 = nI m ∧ (∀ j, j < ls_dk r x i → mm_I M1 (n + (lc_lo p + 2)) j = nI (r (ls_dm r x i j))) ∧ ∀ j, i ≤ j → j < m → mm_I M1 (n + (lc_lo p + 2)) j = nI (r j))
    (fun M1 => lc_dr n p M M1 ∧ lc_rw n M1 p (ls_dk r x m) (fun j => r (ls_dm r x m j))) m ⟨M, rfl, lc_dr_rf n p M, e1, fun j hj => absurd hj (Nat.not_lt_zero j), fun j _ hj => e2 j hj⟩ (by
      rintro i y hi ⟨M1, rfl, hd, hs, ha, hb⟩
      have q1 : mm_k M1 (n + lc_lo p) = some (7, 0) := (lc_di_k hd.1 _).trans k1
      have q2 : mm_R M1 (n + lc_lo p) 1 = some (n + (lc_lo p + 2)) := (lc_di_R hd.1 _ _).trans r1
      have q3 : mm_k M1 (n + (lc_lo p + 2)) = some (12, 120) := (lc_di_k hd.1 _).trans k2
      have hdk := ls_dk_b r x i
      have X : ∀ {z}, f_X6_drop_21 M1 (some (n + lc_lo p)) (nI x) (nI (ls_dk r x i)) (nI i) = z → f_X6_drop_4 M1 (some (n + lc_lo p)) (nI x) (nI (ls_dk r x i)) (nI i) = z := fun q => bx (pfI q1 hs) (iff_ (nI_ge hi (by omega)) (bx (pfR q1 q2) (bx (pe_ln q3 (by omega)) (iff_ (nI_ge (b := 120) (by omega) (by omega)) q))))
      have hn : ∀ (M2 : mm_M) (u : Int32), f_X6_drop_46 M2 (some (n + lc_lo p)) (nI x) u (nI i) = some (.inl (M2, u, nI (i + 1))) := fun M2 u => by
        show some (Sum.inl (M2, u, nI i + 1)) = _
        rw [nI_1]
      by_cases e : r i = x
      · have e3 : ls_dk r x (i + 1) = ls_dk r x i := if_pos e
        have e4 : ∀ j, ls_dm r x (i + 1) j = ls_dm r x i j := fun j => if_pos e
        refine ⟨_, X (bx (pfR q1 q2) (bx (paI q3 (by omega) (by omega) (hb i (Nat.le_refl _) hi)) (ift (by rw [e]) (hn _ _)))), M1, by rw [e3], hd, hs, fun j hj => ?_, fun j h1 h2 => hb j (by omega) h2⟩
        rw [e3] at hj
        rw [e4]
        exact ha j hj
      · have e3 : ls_dk r x (i + 1) = ls_dk r x i + 1 := if_neg e
        have e4 : ∀ j, ls_dm r x (i + 1) j = if j = ls_dk r x i then i else ls_dm r x i j := fun j => if_neg e
        refine ⟨(mm_sI M1 (n + (lc_lo p + 2)) (ls_dk r x i) (nI (r i)), nI (ls_dk r x (i + 1)), nI (i + 1)), X (bx (pfR q1 q2) (bx (paI q3 (by omega) (by omega) (hb i (Nat.le_refl _) hi)) (iff_ (fun q => e ((nI_eq (hr i hi) hx).mp q)) (bx (pfR q1 q2) (bx (pfR q1 q2) (bx (paI q3 (by omega) (by omega) (hb i (Nat.le_refl _) hi)) (bx (pe_tI _ q3 (by omega) (by omega)) ?_))))))), _, rfl, lc_dr_a hd _ _, ?_, fun j hj => ?_, fun j h1 h2 => ?_⟩
        · rw [hn, e3, nI_1]
        · rw [mm_II, if_neg (by omega)]
          exact hs
        · rw [e3] at hj
          rw [mm_II, e4]
          by_cases e5 : j = ls_dk r x i
          · rw [if_pos ⟨rfl, e5⟩, if_pos e5]
          · rw [if_neg (fun q => e5 q.2), if_neg e5]
            exact ha j (by omega)
        · rw [mm_II, if_neg (fun q => by have := q.2; omega)]
          exact hb j (by omega) h2) (by
      rintro y ⟨M1, rfl, hd, hs, ha, hb⟩
      have q1 : mm_k M1 (n + lc_lo p) = some (7, 0) := (lc_di_k hd.1 _).trans k1
      have hdk := ls_dk_b r x m
      refine ⟨_, bx (pfI q1 hs) (ift (nI_le (Nat.le_refl _) (by omega)) (mpx (bx (pe_pI 2 _ q1) rfl))), lc_dr_s hd _, q1, (lc_di_R hd.1 _ _).trans r1, (lc_di_k hd.1 _).trans k2, by omega, ?_, fun j hj => ?_⟩
      · rw [mm_II, if_pos ⟨rfl, rfl⟩]
      · rw [mm_II, if_neg (by omega)]
        exact ha j hj)
  exact ⟨M1, hM1, hd, hw⟩
theorem cl_dropFirst (h : lc_rw n M p m r) (hm : 0 < m) (hr : ∀ i, i < m → r i < 2 ^ 31) (hd : ∀ i, 0 < i → i < m → r i ≠ r 0) : ∃ M1, f_X6_dropFirst M (some (n + lc_lo p)) = some M1 ∧ lc_dr n p M M1 ∧ lc_rw n M1 p (m - 1) (fun j => r (j + 1)) := by
  obtain ⟨M1, e1, d1, w1⟩ := cl_drop h (hr 0 hm) hr
  obtain ⟨q1, q2⟩ := ls_dk_first hd (m - 1) (by omega)
  rw [show m - 1 + 1 = m by omega] at q1 q2
  obtain ⟨a1, a2, a3, a4, a5, a6⟩ := w1
  rw [q1] at a4 a5 a6
  exact ⟨M1, bx (pe_rc h.1) (bx (cl_first h hm) (bx (pe_rc h.1) (bx e1 rfl))), d1, a1, a2, a3, a4, a5, fun j hj => (a6 j hj).trans (congrArg (fun z => nI (r z)) (q2 j hj))⟩
end
section
variable {n k : Nat} {σ τ : ls_S} {B M M1 : mm_M}
/-- the states are alike but for a pupil's day and row -/
def ls_rs (σ τ : ls_S) (p : Nat) : Prop := (∀ f, f ≠ 8 → f ≠ 9 → f ≠ 10 → τ f = σ f) ∧ ∀ q, q ≠ p → q < 4 → τ 8 q = σ 8 q ∧ τ 10 q = σ 10 q ∧ ∀ i, i < 480 → τ 9 (480 * q + i) = σ 9 (480 * q + i)
theorem ls_rs_rf (σ : ls_S) (p : Nat) : ls_rs σ σ p := ⟨fun _ _ _ _ => rfl, fun _ _ _ => ⟨rfl, rfl, fun _ _ => rfl⟩⟩
theorem ls_rs_tr {υ : ls_S} {p : Nat} (h : ls_rs σ τ p) (h2 : ls_rs τ υ p) : ls_rs σ υ p := ⟨fun f a b c => (h2.1 f a b c).trans (h.1 f a b c), fun q a b => ⟨((h2.2 q a b).1).trans (h.2 q a b).1, ((h2.2 q a b).2.1).trans (h.2 q a b).2.1, fun i hi => ((h2.2 q a b).2.2 i hi).trans ((h.2 q a b).2.2 i hi)⟩⟩
theorem ls_rs_9 {p i : Nat} (h : ls_rs σ τ p) (hi : i < 480) (v : Nat) : ls_rs σ (mm_u τ 9 (480 * p + i) v) p := by
  refine ⟨fun f a b c => ?_, fun q a b => ⟨(h.2 q a b).1, (h.2 q a b).2.1, fun j hj => ?_⟩⟩
  · funext j
    rw [mm_u, if_neg (fun e => b e.1), h.1 f a b c]
  · rw [mm_u, if_neg (by omega)]
    exact (h.2 q a b).2.2 j hj
theorem ls_rs_10 {p : Nat} (h : ls_rs σ τ p) (v : Nat) : ls_rs σ (mm_u τ 10 p v) p := by
  refine ⟨fun f a b c => ?_, fun q a b => ⟨(h.2 q a b).1, ?_, (h.2 q a b).2.2⟩⟩
  · funext j
    rw [mm_u, if_neg (fun e => c e.1), h.1 f a b c]
  · rw [mm_u, if_neg (by omega)]
    exact (h.2 q a b).2.1
theorem ls_rs_8 {p : Nat} (h : ls_rs σ τ p) (v : Nat) : ls_rs σ (mm_u τ 8 p v) p := by
  refine ⟨fun f a b c => ?_, fun q a b => ⟨?_, (h.2 q a b).2⟩⟩
  · funext j
    rw [mm_u, if_neg (fun e => a e.1), h.1 f a b c]
  · rw [mm_u, if_neg (by omega)]
    exact (h.2 q a b).1
theorem lc_row {p : Nat} (h : lc n σ B M) (hp : p < 4) (hd : lc_di (lc_rc n p) M M1) (hs : ls_rs σ τ p) (h4 : ls_O4 σ) (h1 : σ 3 0 ≤ 120) (e8 : mm_I M1 (n + lc_lo p) 3 = nI (τ 8 p)) (e10 : mm_I M1 (n + lc_lo p) 2 = nI (τ 10 p)) (e9 : ∀ i, i < τ 10 p → mm_I M1 (n + (lc_lo p + 2)) i = nI (τ 9 (480 * p + i))) : lc n τ B M1 := by
  obtain ⟨i1, i2, i3, i4, i5, i6, i7, i8, i9, ia, ib, ic⟩ := id h.2.1
  have e := hs.1
  have np : p < 5 := by omega
  have l1 := lc_lo29 np
  have l2 := lc_lo_ne np np
  refine lc_fr h hd (fun a ha => by rcases ha with rfl | rfl <;> omega) ⟨by rw [e 3 (by omega) (by omega) (by omega)], e 0 (by omega) (by omega) (by omega), by rw [e 28 (by omega) (by omega) (by omega)], e 1 (by omega) (by omega) (by omega), e 2 (by omega) (by omega) (by omega), fun f a b => e f (by omega) (by omega) (by omega)⟩ ⟨?_, ?_, lc_t3 i3 hd (by unfold lc_rc; omega) (by unfold lc_rc; omega), ?_, fun q hq => ?_, fun q hq => ?_, ?_, ?_, ?_⟩
  · unfold lc_I1
    rw [e 4 (by omega) (by omega) (by omega), e 6 (by omega) (by omega) (by omega), e 7 (by omega) (by omega) (by omega)]
    exact lc_t1 i1 hd (by unfold lc_rc; omega)
  · unfold lc_I2
    rw [e 5 (by omega) (by omega) (by omega)]
    exact lc_t2 i2 hd (by unfold lc_rc; omega)
  · unfold lc_I4
    rw [e 3 (by omega) (by omega) (by omega), e 28 (by omega) (by omega) (by omega)]
    exact lc_t4 i4 hd (fun q hq => by have := lc_lo_ne np hq; have := lc_lo_ne hq np; unfold lc_rc; omega) (by unfold lc_rc; omega) (by unfold lc_rc; omega)
  · by_cases hqp : q = p
    · subst hqp; exact ⟨e8, e10⟩
    · have hnn : ¬ lc_rc n p (n + lc_lo q) := by
        have := lc_lo_ne (show q < 5 by omega) np
        have := (lc_lo29 (show q < 5 by omega)).2.2 p np
        unfold lc_rc; omega
      have r := hs.2 q hqp hq
      rw [r.1, r.2.1]
      exact ⟨((hd.2.2.2 _ hnn).1 _).trans (i5 q hq).1, ((hd.2.2.2 _ hnn).1 _).trans (i5 q hq).2⟩
  · by_cases hqp : q = p
    · subst hqp; exact e9
    · have hnn : ¬ lc_rc n p (n + (lc_lo q + 2)) := by
        have := lc_lo_ne np (show q < 5 by omega)
        have := (lc_lo29 (show q < 5 by omega)).2.2 p np
        unfold lc_rc; omega
      have r := hs.2 q hqp hq
      rw [r.2.1]
      intro i hi
      have := (h4 q hq).1
      rw [r.2.2 i (by omega)]
      exact ((hd.2.2.2 _ hnn).1 _).trans (i6 q hq i hi)
  · unfold lc_Ia
    rw [e 37 (by omega) (by omega) (by omega), e 36 (by omega) (by omega) (by omega), e 35 (by omega) (by omega) (by omega)]
    exact lc_ta ia hd (by unfold lc_rc; omega) (by unfold lc_rc; omega) (by unfold lc_rc; omega)
  · unfold lc_Ib
    rw [e 39 (by omega) (by omega) (by omega), e 40 (by omega) (by omega) (by omega), e 41 (by omega) (by omega) (by omega), e 42 (by omega) (by omega) (by omega), e 43 (by omega) (by omega) (by omega)]
    exact lc_tb ib hd (by unfold lc_rc; omega)
  · unfold lc_Ic
    rw [e 38 (by omega) (by omega) (by omega), e 39 (by omega) (by omega) (by omega)]
    exact lc_tc ic hd (by unfold lc_rc; omega)
theorem lc_rw_of {p : Nat} (h : lc n σ B M) (hp : p < 4) (h4 : ls_O4 σ) (h1 : σ 3 0 ≤ 120) : lc_rw n M p (σ 10 p) (fun i => σ 9 (480 * p + i)) := by
  have := (h4 p hp).1
  exact ⟨lc_kla h (by omega), lc_rlr h (by omega), lc_klr h (by omega), by omega, (h.2.1.2.2.2.2.1 p hp).2, h.2.1.2.2.2.2.2.1 p hp⟩
/-- a row that is well -/
def ls_o4 (σ : ls_S) (m : Nat) (r : Nat → Nat) : Prop := m ≤ σ 3 0 ∧ (∀ i, i < m → ls_pl σ (r i)) ∧ ∀ i, i < m → ∀ j, j < i → r i / 4 ≠ r j / 4
theorem ls_o4_of {p : Nat} (h : ls_O4 σ) (hp : p < 4) : ls_o4 σ (σ 10 p) (fun i => σ 9 (480 * p + i)) := h p hp
theorem ls_o4_dr {m x : Nat} {r : Nat → Nat} (h : ls_o4 σ m r) : ls_o4 σ (ls_dk r x m) (fun j => r (ls_dm r x m j)) := by
  have hb := ls_dk_b r x m
  refine ⟨Nat.le_trans hb.1 h.1, fun i hi => h.2.1 _ (hb.2.1 i hi).1, fun i hi j hj => h.2.2 _ (hb.2.1 i hi).1 _ (hb.2.2 j i hj hi)⟩
theorem ls_o4_lt {m : Nat} {r : Nat → Nat} (h : ls_o4 σ m r) (h1 : ls_O1 σ) (i : Nat) (hi : i < m) : r i < 480 := by
  have := (h.2.1 i hi).1
  have := h1.1
  omega
theorem ls_G_row {p : Nat} (h : ls_G k σ) (hp : p < 4) (hs : ls_rs σ τ p) (e8 : τ 8 p = σ 8 p) (h4 : ls_o4 σ (τ 10 p) (fun i => τ 9 (480 * p + i))) : ls_G k τ := by
  obtain ⟨g1, g2, g3, g4, g5, g6, g7, g8⟩ := h
  have e := fun f (a : f ≠ 8 ∧ f ≠ 9 ∧ f ≠ 10) => hs.1 f a.1 a.2.1 a.2.2
  have e8' : ∀ q, q < 4 → τ 8 q = σ 8 q := fun q hq => by
    by_cases hqp : q = p
    · rw [hqp, e8]
    · exact (hs.2 q hqp hq).1
  have epl : ∀ q, ls_pl τ q ↔ ls_pl σ q := fun q => by unfold ls_pl; rw [e 3 (by omega), e 0 (by omega)]
  have eat : ∀ q, ls_at τ q = ls_at σ q := fun q => by
    unfold ls_at
    rw [e 13 (by omega), e 14 (by omega), e 15 (by omega), e 16 (by omega), e 17 (by omega)]
  refine ⟨?_, ?_, fun q hq i hi => ?_, fun q hq => ?_, ?_, ?_, ?_, fun q hq i hi => ?_⟩
  · unfold ls_O1
    rw [e 0 (by omega), e 1 (by omega), e 2 (by omega), e 3 (by omega)]
    exact g1
  · unfold ls_O2
    rw [e 4 (by omega), e 5 (by omega), e 6 (by omega), e 7 (by omega)]
    exact ⟨g2.1, g2.2.1, g2.2.2.1, g2.2.2.2.1, fun q hq => by rw [e8' q hq]; exact g2.2.2.2.2 q hq⟩
  · rw [eat, e8' q hq]
    exact g3 q hq i hi
  · by_cases hqp : q = p
    · subst hqp
      rw [e 3 (by omega)]
      exact ⟨h4.1, fun i hi => (epl _).mpr (h4.2.1 i hi), h4.2.2⟩
    · have r := hs.2 q hqp hq
      have l := (g4 q hq).1
      have l2 := g1.1
      rw [r.2.1, e 3 (by omega)]
      refine ⟨l, fun i hi => ?_, fun i hi j hj => ?_⟩
      · rw [r.2.2 i (by omega)]
        exact (epl _).mpr ((g4 q hq).2.1 i hi)
      · rw [r.2.2 i (by omega), r.2.2 j (by omega)]
        exact (g4 q hq).2.2 i hi j hj
  · have ew : ∀ i, ls_was τ i = ls_was σ i := fun i => by
      unfold ls_was
      rw [e 23 (by omega), e 24 (by omega), e 25 (by omega), e 26 (by omega), e 27 (by omega)]
    unfold ls_O5
    rw [e 28 (by omega), e 18 (by omega), e 19 (by omega), e 20 (by omega), e 21 (by omega), e 22 (by omega)]
    refine ⟨g5.1, fun i hi => ?_⟩
    have g := g5.2 i hi
    rw [ew i, e8' (σ 18 i / 480) (by omega)]
    exact ⟨g.1, (epl _).mpr g.2.1, g.2.2⟩
  · unfold ls_O6
    rw [e 38 (by omega), e 39 (by omega), e 40 (by omega), e 41 (by omega), e 42 (by omega), e 43 (by omega)]
    exact g6
  · unfold ls_O7
    rw [e 11 (by omega), e 12 (by omega)]
    exact g7
  · rw [eat, e 11 (by omega), e 12 (by omega)]
    exact ⟨(g8 q hq i hi).1, fun z => (g8 q hq i hi).2 (fun y => z ((epl i).mpr y))⟩
-- the model's row
theorem ls_dropFirst {p : Nat} (h : ls_M n σ B M) (hp : p < 4) (hm : 0 < σ 10 p) (h480 : σ 10 p ≤ 480) : ∃ M1 τ, f_X10_dropFirst M (some (n + 31)) (nI p) = some M1 ∧ ls_M n τ B M1 ∧ ls_rs σ τ p ∧ τ 8 p = σ 8 p ∧ τ 10 p = σ 10 p - 1 ∧ ∀ i, i < σ 10 p - 1 → τ 9 (480 * p + i) = σ 9 (480 * p + (i + 1)) := by
  obtain ⟨M0, e0, h0⟩ := ls_tI h 10 p (σ 10 p - 1) (by decide) rfl (show p < 4 from hp)
  have e10 : nI (σ 10 p) - 1 = nI (σ 10 p - 1) := pk_sub (b := 1) (by omega)
  obtain ⟨M1, hr, τ, h1, h2, h3, h4, h5⟩ := pe_cnt (body := fun y : mm_M × Int32 => f_X10_dropFirst_12 y.1 (some (n + 31)) (nI p) y.2) (x := (M0, 0))
    (fun i y => ∃ M1 τ, y = (M1, nI i) ∧ ls_M n τ B M1 ∧ ls_rs σ τ p ∧ τ 8 p = σ 8 p ∧ τ 10 p = σ 10 p - 1 ∧ (∀ j, j < i → τ 9 (480 * p + j) = σ 9 (480 * p + (j + 1))) ∧ ∀ j, i ≤ j → τ 9 (480 * p + j) = σ 9 (480 * p + j))
    (fun M1 => ∃ τ, ls_M n τ B M1 ∧ ls_rs σ τ p ∧ τ 8 p = σ 8 p ∧ τ 10 p = σ 10 p - 1 ∧ ∀ i, i < σ 10 p - 1 → τ 9 (480 * p + i) = σ 9 (480 * p + (i + 1))) (σ 10 p - 1) ⟨M0, _, rfl, h0, ls_rs_10 (ls_rs_rf σ p) _, rfl, by rw [mm_u, if_pos ⟨rfl, rfl⟩], fun j hj => absurd hj (Nat.not_lt_zero j), fun j _ => rfl⟩ (by
      rintro i y hi ⟨M1, τ, rfl, hm1, hs, t8, t10, ta, tb⟩
      obtain ⟨M2, e2, hm2⟩ := ls_tI hm1 9 (480 * p + i) (σ 9 (480 * p + (i + 1))) (by decide) rfl (show 480 * p + i < 1920 by omega)
      refine ⟨(M2, nI (i + 1)), bx (ls_fR hm1 10 (by decide)) (bx (ls_aI hm1 10 p (by decide) hp) (iff_ (show ¬ nI (τ 10 p) ≤ nI i by rw [t10]; exact nI_ge hi (by omega)) (bx (ls_fR hm1 9 (by decide)) (bx (ls_fR hm1 9 (by decide)) (bx (a := nI (σ 9 (480 * p + (i + 1)))) ?_ (bx (a := M2) (by rw [ls_ix2]; exact e2) ?_)))))), M2, _, rfl, hm2, ls_rs_9 hs (by omega) _, t8, t10, fun j hj => ?_, fun j hj => ?_⟩
      · rw [ls_ix2, nI_1, ← tb (i + 1) (by omega)]
        exact ls_aI hm1 9 (480 * p + i + 1) (by decide) (show 480 * p + i + 1 < 1920 by omega)
      · show some (Sum.inl (M2, nI i + 1)) = _
        rw [nI_1]
      · rw [mm_u]
        by_cases e : j = i
        · rw [if_pos ⟨rfl, by rw [e]⟩, e]
        · rw [if_neg (by omega)]
          exact ta j (by omega)
      · rw [mm_u, if_neg (by omega)]
        exact tb j (by omega)) (by
      rintro y ⟨M1, τ, rfl, hm1, hs, t8, t10, ta, tb⟩
      exact ⟨M1, bx (ls_fR hm1 10 (by decide)) (bx (ls_aI hm1 10 p (by decide) hp) (ift (show nI (τ 10 p) ≤ nI (σ 10 p - 1) by rw [t10]; exact nI_le (Nat.le_refl _) (by omega)) (mpx rfl))), τ, hm1, hs, t8, t10, ta⟩)
  exact ⟨M1, τ, bx (ls_fR h 10 (by decide)) (bx (ls_aI h 10 p (by decide) hp) (bx (a := M0) (by show mm_tI M _ (nI p) (nI (σ 10 p) - 1) = _; rw [e10]; exact e0) hr)), h1, h2, h3, h4, h5⟩
end
