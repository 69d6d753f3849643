-- the class's relation with its lists' lengths apart: κ the learners' hands, d the deck, l the log
def lg_h (n : Nat) (σ : ls_S) (M : mm_M) (p c : Nat) : Prop := mm_k M (lc_hd n M p c) = some (6, 0) ∧ n + 63 ≤ lc_hd n M p c ∧ mm_R M (lc_hd n M p c) 0 = some (lc_ma n M p c) ∧ mm_k M (lc_ma n M p c) = some (16, σ 0 c) ∧ n + 63 ≤ lc_ma n M p c ∧ ∀ s, s < σ 0 c → mm_R M (lc_ma n M p c) s = some (lc_mu n M p c s) ∧ mm_k M (lc_mu n M p c s) = some (9, 0) ∧ n + 63 ≤ lc_mu n M p c s
def lg_hI (n : Nat) (σ : ls_S) (M : mm_M) (p c : Nat) : Prop := ∀ s, s < σ 0 c → ∀ k, k < 7 → mm_I M (lc_mu n M p c s) k = ls_en (lc_fl k) (σ (lc_fl k) (480 * p + 4 * c + s))
def lg_d (n : Nat) (M : mm_M) (c : Nat) : Prop := mm_k M (lc_kd n M c) = some (1, 0) ∧ n + 63 ≤ lc_kd n M c ∧ mm_R M (lc_kd n M c) 0 = some (lc_kl n M c) ∧ mm_k M (lc_kl n M c) = some (12, 4) ∧ n + 63 ≤ lc_kl n M c
def lg_dI (n : Nat) (σ : ls_S) (M : mm_M) (c : Nat) : Prop := mm_I M (lc_kd n M c) 1 = nI (σ 2 c) ∧ ∀ k, k < σ 2 c → mm_I M (lc_kl n M c) k = nI (σ 1 (4 * c + k))
def lg_e (n : Nat) (M : mm_M) (i : Nat) : Prop := mm_k M (lc_en n M i) = some (4, 0) ∧ n + 63 ≤ lc_en n M i ∧ mm_R M (lc_en n M i) 6 = some (lc_bf n M i) ∧ mm_k M (lc_bf n M i) = some (9, 0) ∧ n + 63 ≤ lc_bf n M i
def lg_eI (n : Nat) (σ : ls_S) (M : mm_M) (i : Nat) : Prop := (mm_I M (lc_en n M i) 0 = nI (σ 18 i / 480) ∧ mm_I M (lc_en n M i) 1 = nI (σ 18 i % 480) ∧ mm_I M (lc_en n M i) 2 = nI (σ 19 i) ∧ mm_I M (lc_en n M i) 3 = nI (σ 20 i) ∧ mm_I M (lc_en n M i) 4 = nI (σ 21 i) ∧ mm_I M (lc_en n M i) 5 = nI (σ 22 i)) ∧ ∀ k, k < 5 → mm_I M (lc_bf n M i) k = ls_en (23 + k) (σ (23 + k) i)
def lg_z (n : Nat) (M : mm_M) : Prop := mm_z M < n ∧ mm_k M (mm_z M) = some (18, 0) ∧ n + 63 ≤ mm_n M ∧ ∀ a, mm_n M ≤ a → mm_k M a = none
def lg_l (n : Nat) (κ : Nat → Nat) (d l : Nat) (M : mm_M) : Prop := (∀ p, p < 5 → lc_L n M (n + (lc_lo p + 1)) (κ p)) ∧ lc_L n M (n + 4) d ∧ lc_L n M (n + 11) l ∧ ∀ a, a ∈ lc_ls → ∀ b, b ∈ lc_ls → lc_el M (n + a) = lc_el M (n + b) → a = b ∨ lc_el M (n + a) = mm_z M
def lg_4 (n : Nat) (κ : Nat → Nat) (d l : Nat) (M : mm_M) : Prop := (∀ p, p < 5 → mm_I M (n + (lc_lo p + 1)) 2 = nI (κ p)) ∧ mm_I M (n + 4) 2 = nI d ∧ mm_I M (n + 11) 2 = nI l
def lg_m (n : Nat) (σ : ls_S) (κ : Nat → Nat) (M : mm_M) : Prop := ∀ p, p < 5 → ∀ c, c < κ p → ∀ s, s < σ 0 c → ∀ p2, p2 < 5 → ∀ c2, c2 < κ p2 → ∀ s2, s2 < σ 0 c2 → lc_mu n M p c s = lc_mu n M p2 c2 s2 → p = p2 ∧ c = c2 ∧ s = s2
def lg_d2 (n d : Nat) (M : mm_M) : Prop := ∀ c, c < d → ∀ c2, c2 < d → (lc_kd n M c = lc_kd n M c2 → c = c2) ∧ (lc_kl n M c = lc_kl n M c2 → c = c2)
def lg_b (n : Nat) (σ : ls_S) (κ : Nat → Nat) (l : Nat) (M : mm_M) : Prop := ∀ i, i < l → ∀ p, p < 5 → ∀ c, c < κ p → ∀ s, s < σ 0 c → lc_bf n M i ≠ lc_mu n M p c s
/-- the fixed numbers -/
def lg_f (n : Nat) (σ : ls_S) (M : mm_M) : Prop := lc_I1 n σ M ∧ lc_I2 n σ M ∧ lc_I3 n M ∧ lc_I5 n σ M ∧ lc_I6 n σ M ∧ lc_Ia n σ M ∧ lc_Ib n σ M ∧ lc_Ic n σ M
def lg (n : Nat) (σ : ls_S) (κ : Nat → Nat) (d l : Nat) (B M : mm_M) : Prop := lc_K0 n M ∧ lg_z n M ∧ lg_l n κ d l M ∧ lg_4 n κ d l M ∧ (∀ p, p < 5 → ∀ c, c < κ p → lg_h n σ M p c ∧ lg_hI n σ M p c) ∧ lg_m n σ κ M ∧ (∀ c, c < d → lg_d n M c ∧ lg_dI n σ M c) ∧ lg_d2 n d M ∧ (∀ i, i < l → lg_e n M i ∧ lg_eI n σ M i) ∧ lg_b n σ κ l M ∧ lg_f n σ M ∧ lc_mf n B M
section
variable {n d l d1 l1 o : Nat} {σ τ : ls_S} {κ κ1 : Nat → Nat} {B M M1 : mm_M} {P : Nat → Prop}
theorem lg_of (h : lc n σ B M) : lg n σ (fun _ => σ 3 0) (σ 3 0) (σ 28 0) B M := by
  obtain ⟨⟨K0, Kz, Kl, Kh, Km, Kd, Kd2, Ke⟩, ⟨i1, i2, i3, i4, i5, i6, i7, i8, i9, ia, ib, ic⟩, hm⟩ := h
  exact ⟨K0, Kz, Kl, i4, fun p hp c hc => ⟨Kh p hp c hc, i7 p hp c hc⟩, Km, fun c hc => ⟨Kd c hc, i8 c hc⟩, Kd2, fun i hi => ⟨⟨(Ke i hi).1, (Ke i hi).2.1, (Ke i hi).2.2.1, (Ke i hi).2.2.2.1, (Ke i hi).2.2.2.2.1⟩, i9 i hi⟩, fun i hi => (Ke i hi).2.2.2.2.2, ⟨i1, i2, i3, i5, i6, ia, ib, ic⟩, hm⟩
theorem lg_to (h : lg n σ (fun _ => σ 3 0) (σ 3 0) (σ 28 0) B M) : lc n σ B M := by
  obtain ⟨K0, Kz, Kl, i4, Kh, Km, Kd, Kd2, Ke, Kb, ⟨i1, i2, i3, i5, i6, ia, ib, ic⟩, hm⟩ := h
  exact ⟨⟨K0, Kz, Kl, fun p hp c hc => (Kh p hp c hc).1, Km, fun c hc => (Kd c hc).1, Kd2, fun i hi => ⟨(Ke i hi).1.1, (Ke i hi).1.2.1, (Ke i hi).1.2.2.1, (Ke i hi).1.2.2.2.1, (Ke i hi).1.2.2.2.2, Kb i hi⟩⟩, ⟨i1, i2, i3, i4, i5, i6, fun p hp c hc => (Kh p hp c hc).2, fun c hc => (Kd c hc).2, fun i hi => (Ke i hi).2, ia, ib, ic⟩, hm⟩
/-- the state changed where the relation doesn't look -/
theorem lg_σ (h : lg n σ κ d l B M) (e0 : ∀ p, p < 5 → ∀ c, c < κ p → τ 0 c = σ 0 c) (em : ∀ p, p < 5 → ∀ c, c < κ p → ∀ s, s < σ 0 c → ∀ k, k < 7 → τ (lc_fl k) (480 * p + 4 * c + s) = σ (lc_fl k) (480 * p + 4 * c + s)) (ed : ∀ c, c < d → τ 2 c = σ 2 c ∧ ∀ k, k < σ 2 c → τ 1 (4 * c + k) = σ 1 (4 * c + k)) (ee : ∀ i, i < l → ∀ f, 18 ≤ f → f ≤ 27 → τ f i = σ f i) (ef : ∀ f, (4 ≤ f ∧ f ≤ 10) ∨ (35 ≤ f ∧ f ≤ 43) → τ f = σ f) : lg n τ κ d l B M := by
  obtain ⟨K0, Kz, Kl, i4, Kh, Km, Kd, Kd2, Ke, Kb, ⟨i1, i2, i3, i5, i6, ia, ib, ic⟩, hm⟩ := h
  refine ⟨K0, Kz, Kl, i4, fun p hp c hc => ⟨?_, ?_⟩, fun p hp c hc s hs p2 hp2 c2 hc2 s2 hs2 => ?_, fun c hc => ⟨(Kd c hc).1, ?_⟩, Kd2, fun i hi => ⟨(Ke i hi).1, ?_⟩, fun i hi p hp c hc s hs => ?_, ⟨?_, ?_, i3, ?_, ?_, ?_, ?_, ?_⟩, hm⟩
  · unfold lg_h; rw [e0 p hp c hc]; exact (Kh p hp c hc).1
  · unfold lg_hI; rw [e0 p hp c hc]; intro s hs k hk; rw [em p hp c hc s hs k hk]; exact (Kh p hp c hc).2 s hs k hk
  · rw [e0 p hp c hc] at hs; rw [e0 p2 hp2 c2 hc2] at hs2; exact Km p hp c hc s hs p2 hp2 c2 hc2 s2 hs2
  · unfold lg_dI; rw [(ed c hc).1]; exact ⟨(Kd c hc).2.1, fun k hk => by rw [(ed c hc).2 k hk]; exact (Kd c hc).2.2 k hk⟩
  · unfold lg_eI; rw [ee i hi 18 (by omega) (by omega), ee i hi 19 (by omega) (by omega), ee i hi 20 (by omega) (by omega), ee i hi 21 (by omega) (by omega), ee i hi 22 (by omega) (by omega)]
    exact ⟨(Ke i hi).2.1, fun k hk => by rw [ee i hi (23 + k) (by omega) (by omega)]; exact (Ke i hi).2.2 k hk⟩
  · rw [e0 p hp c hc] at hs; exact Kb i hi p hp c hc s hs
  · unfold lc_I1; rw [ef 4 (by omega), ef 6 (by omega), ef 7 (by omega)]; exact i1
  · unfold lc_I2; rw [ef 5 (by omega)]; exact i2
  · unfold lc_I5; rw [ef 8 (by omega), ef 10 (by omega)]; exact i5
  · unfold lc_I6; rw [ef 9 (by omega), ef 10 (by omega)]; exact i6
  · unfold lc_Ia; rw [ef 37 (by omega), ef 36 (by omega), ef 35 (by omega)]; exact ia
  · unfold lc_Ib; rw [ef 39 (by omega), ef 40 (by omega), ef 41 (by omega), ef 42 (by omega), ef 43 (by omega)]; exact ib
  · unfold lc_Ic; rw [ef 38 (by omega), ef 39 (by omega)]; exact ic
/-- each list's length -/
theorem lg_Lo (h : lg n σ κ d l B M) (ho : o ∈ lc_ls) : ∃ k, lc_L n M (n + o) k := by
  have q : ∀ o, o ∈ lc_ls → o = 4 ∨ o = 11 ∨ ∃ p, p < 5 ∧ o = lc_lo p + 1 := by decide
  rcases q o ho with rfl | rfl | ⟨p, hp, rfl⟩
  · exact ⟨_, h.2.2.1.2.1⟩
  · exact ⟨_, h.2.2.1.2.2.1⟩
  · exact ⟨_, h.2.2.1.1 p hp⟩
theorem lg_ko (h : lg n σ κ d l B M) (ho : o ∈ lc_ls) : mm_k M (n + o) = some (0, 0) := by
  have q : ∀ o, o ∈ lc_ls → (o, 0, 0) ∈ lc_kt := by decide
  exact h.1.1 _ (q o ho)
/-- what a list's change leaves alone -/
theorem lg_P (h : lg n σ κ d l B M) (ho : o ∈ lc_ls) {q : Nat} (hq : q = n + o ∨ (q = lc_el M (n + o) ∧ q ≠ mm_z M)) : (q = n + o ∧ mm_k M q = some (0, 0)) ∨ (n + 63 ≤ q ∧ q = lc_el M (n + o) ∧ ∃ m, mm_k M q = some (17, m)) := by
  rcases hq with rfl | ⟨rfl, hz⟩
  · exact Or.inl ⟨rfl, lg_ko h ho⟩
  · obtain ⟨k, hL⟩ := lg_Lo h ho
    rcases hL with ⟨-, hr⟩ | ⟨cap, c1, c2, c3, c4, c5, c6, c7, c8⟩
    · exact absurd (show lc_el M (n + o) = mm_z M by unfold lc_el; rw [hr]; rfl) hz
    · exact Or.inr ⟨c5, rfl, cap, c6⟩
theorem lg_same (h : lg n σ κ d l B M) (ho : o ∈ lc_ls) (g : lc_gw P M M1) (hP : ∀ q, P q → q = n + o ∨ (q = lc_el M (n + o) ∧ q ≠ mm_z M)) {q : Nat} {x : Nat × Nat} (hk : mm_k M q = some x) (h0 : x.1 ≠ 0 ∧ x.1 ≠ 17) : mm_k M1 q = some x ∧ (∀ k, mm_I M1 q k = mm_I M q k) ∧ (∀ k, mm_R M1 q k = mm_R M q k) ∧ ∀ k, mm_L M1 q k = mm_L M q k := by
  have lt := gw_lt h.2.1.2.2.2 hk
  refine ⟨(g.2.2.1 q lt).trans hk, g.2.2.2.2 q lt (fun z => ?_)⟩
  rcases lg_P h ho (hP q z) with ⟨-, e⟩ | ⟨-, -, m, e⟩
  · rw [hk] at e; exact h0.1 (congrArg (fun y : Option (Nat × Nat) => (y.getD (0, 0)).1) e)
  · rw [hk] at e; exact h0.2 (congrArg (fun y : Option (Nat × Nat) => (y.getD (0, 0)).1) e)
theorem lg_li (h : lg n σ κ d l B M) (ho : o ∈ lc_ls) (g : lc_gw P M M1) (hP : ∀ q, P q → q = n + o ∨ (q = lc_el M (n + o) ∧ q ≠ mm_z M)) {o2 k : Nat} (ho2 : o2 ∈ lc_ls) (hne : o2 ≠ o) (hL : lc_L n M (n + o2) k) : lc_L n M1 (n + o2) k ∧ lc_el M1 (n + o2) = lc_el M (n + o2) ∧ (∀ i, lc_it M1 (n + o2) i = lc_it M (n + o2) i) ∧ mm_I M1 (n + o2) 2 = mm_I M (n + o2) 2 := by
  have ko2 := lg_ko h ho2
  have lt := gw_lt h.2.1.2.2.2 ko2
  have nP : ¬ P (n + o2) := fun z => by
    rcases lg_P h ho (hP _ z) with ⟨e, -⟩ | ⟨-, -, m, e⟩
    · omega
    · rw [ko2] at e; cases e
  obtain ⟨sI, sR, -⟩ := g.2.2.2.2 _ lt nP
  have eel : lc_el M1 (n + o2) = lc_el M (n + o2) := by unfold lc_el; rw [sR]
  have kel : lc_el M (n + o2) < mm_n M ∧ ¬ P (lc_el M (n + o2)) ∧ mm_k M1 (lc_el M (n + o2)) = mm_k M (lc_el M (n + o2)) := by
    have key : ∀ x, mm_k M (lc_el M (n + o2)) = some x → ¬ P (lc_el M (n + o2)) → lc_el M (n + o2) < mm_n M ∧ ¬ P (lc_el M (n + o2)) ∧ mm_k M1 (lc_el M (n + o2)) = mm_k M (lc_el M (n + o2)) := fun x hx hn => ⟨gw_lt h.2.1.2.2.2 hx, hn, g.2.2.1 _ (gw_lt h.2.1.2.2.2 hx)⟩
    rcases hL with ⟨-, hr⟩ | ⟨cap, c1, c2, c3, c4, c5, c6, c7, c8⟩
    · have ez : lc_el M (n + o2) = mm_z M := by unfold lc_el; rw [hr]; rfl
      refine key _ (by rw [ez]; exact h.2.1.2.1) (fun z => ?_)
      rw [ez] at z
      rcases lg_P h ho (hP _ z) with ⟨-, e⟩ | ⟨-, -, m, e⟩
      · rw [h.2.1.2.1] at e; cases e
      · rw [h.2.1.2.1] at e; cases e
    · refine key _ c6 (fun z => ?_)
      rcases lg_P h ho (hP _ z) with ⟨-, e⟩ | ⟨-, e, -⟩
      · rw [c6] at e; cases e
      · rcases h.2.2.1.2.2.2 o2 ho2 o ho e with e3 | e3
        · exact hne e3
        · rw [e3, h.2.1.2.1] at c6; cases c6
  have sR2 := (g.2.2.2.2 _ kel.1 kel.2.1).2.1
  have eit : ∀ i, lc_it M1 (n + o2) i = lc_it M (n + o2) i := fun i => by unfold lc_it; rw [eel, sR2]
  refine ⟨?_, eel, eit, sI 2⟩
  rcases hL with ⟨e0, hr⟩ | ⟨cap, c1, c2, c3, c4, c5, c6, c7, c8⟩
  · exact Or.inl ⟨e0, by rw [sR, g.2.1]; exact hr⟩
  · exact Or.inr ⟨cap, c1, c2, c3, by rw [sR, eel]; exact c4, by rw [eel]; exact c5, by rw [eel, kel.2.2]; exact c6, fun i hi => by rw [eel, sR2, eit]; exact c7 i hi, fun i hi hi2 => by rw [eel, sR2]; exact c8 i hi hi2⟩
theorem n16 {m : Nat} : ((16, m) : Nat × Nat).1 ≠ 0 ∧ ((16, m) : Nat × Nat).1 ≠ 17 := ⟨by show (16 : Nat) ≠ 0; decide, by show (16 : Nat) ≠ 17; decide⟩
/-- a thing added to a list, or taken from it -/
theorem lg_step (h : lg n σ κ d l B M) (ho : o ∈ lc_ls) (g : lc_gw P M M1) (hP : ∀ q, P q → q = n + o ∨ (q = lc_el M (n + o) ∧ q ≠ mm_z M)) (hl : lg_l n κ1 d1 l1 M1) (h4 : lg_4 n κ1 d1 l1 M1)
    (ih : ∀ p, p < 5 → ∀ c, c < κ1 p → c < κ p → lc_hd n M1 p c = lc_hd n M p c) (id_ : ∀ c, c < d1 → c < d → lc_kd n M1 c = lc_kd n M c) (ie : ∀ i, i < l1 → i < l → lc_en n M1 i = lc_en n M i)
    (nh : ∀ p, p < 5 → ∀ c, c < κ1 p → ¬ c < κ p → lg_h n σ M1 p c ∧ lg_hI n σ M1 p c ∧ (∀ s, s < σ 0 c → mm_n M ≤ lc_mu n M1 p c s) ∧ (∀ s, s < σ 0 c → ∀ s2, s2 < σ 0 c → lc_mu n M1 p c s = lc_mu n M1 p c s2 → s = s2) ∧ ∀ p2, p2 < 5 → ∀ c2, c2 < κ1 p2 → ¬ c2 < κ p2 → p = p2 ∧ c = c2)
    (nd : ∀ c, c < d1 → ¬ c < d → lg_d n M1 c ∧ lg_dI n σ M1 c ∧ mm_n M ≤ lc_kd n M1 c ∧ mm_n M ≤ lc_kl n M1 c ∧ ∀ c2, c2 < d1 → ¬ c2 < d → c = c2)
    (ne : ∀ i, i < l1 → ¬ i < l → lg_e n M1 i ∧ lg_eI n σ M1 i ∧ mm_n M ≤ lc_bf n M1 i)
    (no : ∀ p, p < 5 → ∀ c, c < κ1 p → ¬ c < κ p → ∀ i, i < l1 → i < l) : lg n σ κ1 d1 l1 B M1 := by
  have S := fun {q x} (hk : mm_k M q = some x) (h0 : x.1 ≠ 0 ∧ x.1 ≠ 17) => lg_same h ho g hP hk h0
  have h' := h
  obtain ⟨K0, Kz, Kl, i4, Kh, Km, Kd, Kd2, Ke, Kb, ⟨i1, i2, i3, i5, i6, ia, ib, ic⟩, hm⟩ := h'
  -- pointers
  have pma : ∀ p, p < 5 → ∀ c, c < κ1 p → c < κ p → lc_ma n M1 p c = lc_ma n M p c := fun p hp c hc hc2 => by
    unfold lc_ma
    rw [ih p hp c hc hc2, (S (Kh p hp c hc2).1.1 (by decide)).2.2.1]
  have pmu : ∀ p, p < 5 → ∀ c, c < κ1 p → c < κ p → ∀ s, lc_mu n M1 p c s = lc_mu n M p c s := fun p hp c hc hc2 s => by
    unfold lc_mu
    rw [pma p hp c hc hc2, (S (Kh p hp c hc2).1.2.2.2.1 n16).2.2.1]
  have pkl : ∀ c, c < d1 → c < d → lc_kl n M1 c = lc_kl n M c := fun c hc hc2 => by
    unfold lc_kl
    rw [id_ c hc hc2, (S (Kd c hc2).1.1 (by decide)).2.2.1]
  have pbf : ∀ i, i < l1 → i < l → lc_bf n M1 i = lc_bf n M i := fun i hi hi2 => by
    unfold lc_bf
    rw [ie i hi hi2, (S (Ke i hi2).1.1 (by decide)).2.2.1]
  have fix : ∀ t, t ∈ lc_kt → t.2.1 ≠ 0 → (∀ k, mm_I M1 (n + t.1) k = mm_I M (n + t.1) k) ∧ (∀ k, mm_R M1 (n + t.1) k = mm_R M (n + t.1) k) ∧ ∀ k, mm_L M1 (n + t.1) k = mm_L M (n + t.1) k := fun t ht h0 => by
    have q17 : ∀ t, t ∈ lc_kt → t.2.1 ≠ 17 := by decide
    exact (S (K0.1 t ht) ⟨h0, q17 t ht⟩).2
  have oldmu : ∀ p, p < 5 → ∀ c, c < κ p → ∀ s, s < σ 0 c → lc_mu n M p c s < mm_n M := fun p hp c hc s hs => gw_lt Kz.2.2.2 ((Kh p hp c hc).1.2.2.2.2.2 s hs).2.1
  refine ⟨⟨fun t ht => ?_, fun t ht => ?_⟩, ⟨?_, ?_, ?_, g.2.2.2.1⟩, hl, h4, fun p hp c hc => ?_, fun p hp c hc s hs p2 hp2 c2 hc2 s2 hs2 e => ?_, fun c hc => ?_, fun c hc c2 hc2 => ?_, fun i hi => ?_, fun i hi p hp c hc s hs => ?_, ⟨?_, ?_, ?_, ?_, ?_, ?_, ?_, ?_⟩, fun q hq1 hq2 => ?_⟩
  · rw [g.2.2.1 _ (gw_lt Kz.2.2.2 (K0.1 t ht))]; exact K0.1 t ht
  · have q0 : ∀ t, t ∈ lc_rt → (t.1, 10, 0) ∈ lc_kt ∨ (t.1, 2, 0) ∈ lc_kt ∨ (t.1, 3, 0) ∈ lc_kt ∨ (t.1, 15, 4) ∈ lc_kt ∨ (t.1, 7, 0) ∈ lc_kt ∨ (t.1, 5, 0) ∈ lc_kt ∨ (t.1, 8, 0) ∈ lc_kt := by decide
    have : ∀ k, mm_R M1 (n + t.1) k = mm_R M (n + t.1) k := by
      rcases q0 t ht with q | q | q | q | q | q | q
      · exact (fix (t.1, 10, 0) q (by show (10 : Nat) ≠ 0; decide)).2.1
      · exact (fix (t.1, 2, 0) q (by show (2 : Nat) ≠ 0; decide)).2.1
      · exact (fix (t.1, 3, 0) q (by show (3 : Nat) ≠ 0; decide)).2.1
      · exact (fix (t.1, 15, 4) q (by show (15 : Nat) ≠ 0; decide)).2.1
      · exact (fix (t.1, 7, 0) q (by show (7 : Nat) ≠ 0; decide)).2.1
      · exact (fix (t.1, 5, 0) q (by show (5 : Nat) ≠ 0; decide)).2.1
      · exact (fix (t.1, 8, 0) q (by show (8 : Nat) ≠ 0; decide)).2.1
    rw [this]
    exact K0.2 t ht
  · rw [g.2.1]; exact Kz.1
  · rw [g.2.1]; exact (S Kz.2.1 (by decide)).1
  · have := g.1; have := Kz.2.2.1; omega
  · by_cases hc2 : c < κ p
    · obtain ⟨⟨a1, a2, a3, a4, a5, a6⟩, b⟩ := Kh p hp c hc2
      refine ⟨?_, fun s hs k hk => ?_⟩
      · unfold lg_h
        rw [ih p hp c hc hc2, pma p hp c hc hc2]
        refine ⟨(S a1 (by decide)).1, a2, by rw [(S a1 (by decide)).2.2.1]; exact a3, (S a4 n16).1, a5, fun s hs => ?_⟩
        rw [pmu p hp c hc hc2 s, (S a4 n16).2.2.1]
        exact ⟨(a6 s hs).1, (S (a6 s hs).2.1 (by decide)).1, (a6 s hs).2.2⟩
      · rw [pmu p hp c hc hc2 s, (S (a6 s hs).2.1 (by decide)).2.1]
        exact b s hs k hk
    · exact ⟨(nh p hp c hc hc2).1, (nh p hp c hc hc2).2.1⟩
  · by_cases o1 : c < κ p
    · by_cases o2 : c2 < κ p2
      · rw [pmu p hp c hc o1, pmu p2 hp2 c2 hc2 o2] at e
        exact Km p hp c o1 s hs p2 hp2 c2 o2 s2 hs2 e
      · have a := oldmu p hp c o1 s hs
        have b := (nh p2 hp2 c2 hc2 o2).2.2.1 s2 hs2
        rw [pmu p hp c hc o1] at e
        omega
    · by_cases o2 : c2 < κ p2
      · have a := oldmu p2 hp2 c2 o2 s2 hs2
        have b := (nh p hp c hc o1).2.2.1 s hs
        rw [pmu p2 hp2 c2 hc2 o2] at e
        omega
      · obtain ⟨rfl, rfl⟩ := (nh p hp c hc o1).2.2.2.2 p2 hp2 c2 hc2 o2
        exact ⟨rfl, rfl, (nh p hp c hc o1).2.2.2.1 s hs s2 hs2 e⟩
  · by_cases hc2 : c < d
    · obtain ⟨⟨a1, a2, a3, a4, a5⟩, b1, b2⟩ := Kd c hc2
      refine ⟨?_, ?_⟩
      · unfold lg_d
        rw [id_ c hc hc2, pkl c hc hc2]
        exact ⟨(S a1 (by decide)).1, a2, by rw [(S a1 (by decide)).2.2.1]; exact a3, (S a4 (by decide)).1, a5⟩
      · unfold lg_dI
        rw [id_ c hc hc2, pkl c hc hc2]
        exact ⟨by rw [(S a1 (by decide)).2.1]; exact b1, fun k hk => by rw [(S a4 (by decide)).2.1]; exact b2 k hk⟩
    · exact ⟨(nd c hc hc2).1, (nd c hc hc2).2.1⟩
  · by_cases o1 : c < d
    · by_cases o2 : c2 < d
      · rw [id_ c hc o1, id_ c2 hc2 o2, pkl c hc o1, pkl c2 hc2 o2]
        exact Kd2 c o1 c2 o2
      · have a := gw_lt Kz.2.2.2 (Kd c o1).1.1
        have a' := gw_lt Kz.2.2.2 (Kd c o1).1.2.2.2.1
        have b := (nd c2 hc2 o2).2.2
        rw [id_ c hc o1, pkl c hc o1]
        exact ⟨fun e => by omega, fun e => by omega⟩
    · by_cases o2 : c2 < d
      · have a := gw_lt Kz.2.2.2 (Kd c2 o2).1.1
        have a' := gw_lt Kz.2.2.2 (Kd c2 o2).1.2.2.2.1
        have b := (nd c hc o1).2.2
        rw [id_ c2 hc2 o2, pkl c2 hc2 o2]
        exact ⟨fun e => by omega, fun e => by omega⟩
      · exact ⟨fun _ => (nd c hc o1).2.2.2.2 c2 hc2 o2, fun _ => (nd c hc o1).2.2.2.2 c2 hc2 o2⟩
  · by_cases hi2 : i < l
    · obtain ⟨⟨a1, a2, a3, a4, a5⟩, ⟨b0, b1, b2, b3, b4, b5⟩, b6⟩ := Ke i hi2
      refine ⟨?_, ?_⟩
      · unfold lg_e
        rw [ie i hi hi2, pbf i hi hi2]
        exact ⟨(S a1 (by decide)).1, a2, by rw [(S a1 (by decide)).2.2.1]; exact a3, (S a4 (by decide)).1, a5⟩
      · unfold lg_eI
        have e1 := (S a1 (by decide)).2.1
        have e4 := (S a4 (by decide)).2.1
        rw [ie i hi hi2, pbf i hi hi2, e1, e1, e1, e1, e1, e1]
        exact ⟨⟨b0, b1, b2, b3, b4, b5⟩, fun k hk => by rw [e4]; exact b6 k hk⟩
    · exact ⟨(ne i hi hi2).1, (ne i hi hi2).2.1⟩
  · by_cases o1 : i < l
    · by_cases o2 : c < κ p
      · rw [pbf i hi o1, pmu p hp c hc o2]
        exact Kb i o1 p hp c o2 s hs
      · have a := gw_lt Kz.2.2.2 (Ke i o1).1.2.2.2.1
        have b := (nh p hp c hc o2).2.2.1 s hs
        rw [pbf i hi o1]
        omega
    · by_cases o2 : c < κ p
      · have a := oldmu p hp c o2 s hs
        have b := (ne i hi o1).2.2
        rw [pmu p hp c hc o2]
        omega
      · exact absurd (no p hp c hc o2 i hi) o1
  · have e := (fix (0, 10, 0) (by decide) (by decide)).1
    exact ⟨(e 8).trans i1.1, (e 9).trans i1.2.1, (e 10).trans i1.2.2⟩
  · exact fun a ha => ((fix (18, 12, 4) (by decide) (by decide)).1 a).trans (i2 a ha)
  · exact ⟨((fix (1, 2, 0) (by decide) (by decide)).1 1).trans i3.1, fun i hi => ((fix (2, 12, 400) (by decide) (by decide)).1 i).trans (i3.2 i hi)⟩
  · intro p hp
    have q : ∀ p, p < 4 → (lc_lo p, 7, 0) ∈ lc_kt := by decide
    have e := (fix (lc_lo p, 7, 0) (q p hp) (by show (7 : Nat) ≠ 0; decide)).1
    exact ⟨(e 3).trans (i5 p hp).1, (e 2).trans (i5 p hp).2⟩
  · intro p hp i hi
    have q : ∀ p, p < 4 → (lc_lo p + 2, 12, 120) ∈ lc_kt := by decide
    exact ((fix (lc_lo p + 2, 12, 120) (q p hp) (by show (12 : Nat) ≠ 0; decide)).1 i).trans (i6 p hp i hi)
  · exact ⟨ia.1, ((fix (12, 5, 0) (by decide) (by decide)).1 4).trans ia.2.1, fun q => ⟨fun d hd => ((fix (15, 12, 81) (by decide) (by decide)).1 d).trans ((ia.2.2 q).1 d hd), fun d hd => ((fix (14, 12, 480) (by decide) (by decide)).1 d).trans ((ia.2.2 q).2 d hd)⟩⟩
  · have e := (fix (16, 8, 0) (by decide) (by decide)).1
    exact ⟨(e 1).trans ib.1, (e 2).trans ib.2.1, (e 3).trans ib.2.2.1, (e 4).trans ib.2.2.2.1, (e 5).trans ib.2.2.2.2⟩
  · exact fun i hi => ((fix (17, 13, 8) (by decide) (by decide)).2.2 i).trans (ic i hi)
  · have lt : q < mm_n M := by have := Kz.2.2.1; omega
    have nP : ¬ P q := fun z => by
      have ol : ∀ o, o ∈ lc_ls → o < 31 := by decide
      have := ol o ho
      rcases lg_P h ho (hP q z) with ⟨e, -⟩ | ⟨e, -⟩ <;> omega
    obtain ⟨s1, s2, s3⟩ := g.2.2.2.2 q lt nP
    obtain ⟨t0, t1, t2, t3⟩ := hm q hq1 hq2
    exact ⟨(g.2.2.1 q lt).trans t0, fun k => (s1 k).trans (t1 k), fun k => (s2 k).trans (t2 k), fun k => (s3 k).trans (t3 k)⟩
end
