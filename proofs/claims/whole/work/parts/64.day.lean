section
variable {n k : Nat} {σ τ : ls_S} {B M M1 : mm_M}
/-- the relation sees of the memories those that there are -/
theorem lc_cg (h : lc n σ B M) (h1 : ∀ f, (f < 11 ∨ 17 < f) → ls_nx f → τ f = σ f) (h2 : ∀ p, p < 5 → ∀ c, c < σ 3 0 → ∀ s, s < σ 0 c → ∀ f, 11 ≤ f → f ≤ 17 → τ f (480 * p + 4 * c + s) = σ f (480 * p + 4 * c + s)) : lc n τ B M := by
  have e : ∀ f, (f < 11 ∨ 17 < f ∧ f < 29 ∨ 33 < f) → f ≠ 45 → τ f = σ f := fun f a b => h1 f (by omega) (ls_nx_of (by omega) b)
  obtain ⟨hK, ⟨i1, i2, i3, i4, i5, i6, i7, i8, i9, ia, ib, ic⟩, hm⟩ := h
  have hf : ∀ k, k < 7 → 11 ≤ lc_fl k ∧ lc_fl k ≤ 17 := by decide
  refine ⟨lc_Kσ hK (by rw [e 3 (by omega) (by omega)]) (e 0 (by omega) (by omega)) (by rw [e 28 (by omega) (by omega)]), ⟨?_, ?_, i3, lc_s4 i4 (by rw [e 3 (by omega) (by omega)]) (by rw [e 28 (by omega) (by omega)]), ?_, lc_s6 i6 (e 9 (by omega) (by omega)) (e 10 (by omega) (by omega)), ?_, lc_s8 i8 (by rw [e 3 (by omega) (by omega)]) (e 1 (by omega) (by omega)) (e 2 (by omega) (by omega)), lc_s9 i9 (by rw [e 28 (by omega) (by omega)]) (fun f a b => e f (by omega) (by omega)), ?_, ?_, ?_⟩, hm⟩
  · unfold lc_I1; rw [e 4 (by omega) (by omega), e 6 (by omega) (by omega), e 7 (by omega) (by omega)]; exact i1
  · unfold lc_I2; rw [e 5 (by omega) (by omega)]; exact i2
  · unfold lc_I5; rw [e 8 (by omega) (by omega), e 10 (by omega) (by omega)]; exact i5
  · unfold lc_I7; rw [e 3 (by omega) (by omega), e 0 (by omega) (by omega)]
    intro p hp c hc s hs j hj
    rw [h2 p hp c hc s hs _ (hf j hj).1 (hf j hj).2]
    exact i7 p hp c hc s hs j hj
  · unfold lc_Ia; rw [e 37 (by omega) (by omega), e 36 (by omega) (by omega), e 35 (by omega) (by omega)]; exact ia
  · unfold lc_Ib; rw [e 39 (by omega) (by omega), e 40 (by omega) (by omega), e 41 (by omega) (by omega), e 42 (by omega) (by omega), e 43 (by omega) (by omega)]; exact ib
  · unfold lc_Ic; rw [e 38 (by omega) (by omega), e 39 (by omega) (by omega)]; exact ic
/-- today's marks gone from b to e -/
def ls_zt (σ : ls_S) (b e : Nat) : ls_S := fun f q => if (f = 11 ∨ f = 12) ∧ b ≤ q ∧ q < e then 0 else σ f q
theorem ls_zt_f (σ : ls_S) (b e : Nat) {f : Nat} (hf : f ≠ 11 ∧ f ≠ 12) : ls_zt σ b e f = σ f := by
  funext q
  exact if_neg (fun h => by omega)
theorem ls_zt_u (σ : ls_S) (b i : Nat) : mm_u (mm_u (ls_zt σ b (b + i)) 12 (b + i) 0) 11 (b + i) 0 = ls_zt σ b (b + (i + 1)) := by
  funext f q
  unfold mm_u ls_zt
  by_cases h1 : f = 11 ∧ q = b + i
  · rw [if_pos h1, if_pos (by omega)]
  · rw [if_neg h1]
    by_cases h2 : f = 12 ∧ q = b + i
    · rw [if_pos h2, if_pos (by omega)]
    · rw [if_neg h2]
      by_cases h3 : (f = 11 ∨ f = 12) ∧ b ≤ q ∧ q < b + i
      · rw [if_pos h3, if_pos (by omega)]
      · rw [if_neg h3, if_neg (by omega)]
theorem ls_zt_0 (σ : ls_S) (b : Nat) : ls_zt σ b b = σ := by
  funext f q
  exact if_neg (by omega)
theorem ls_zt_tr (σ : ls_S) {a b e : Nat} (h1 : a ≤ b) (h2 : b ≤ e) : ls_zt (ls_zt σ a b) b e = ls_zt σ a e := by
  funext f q
  unfold ls_zt
  by_cases h3 : (f = 11 ∨ f = 12) ∧ a ≤ q ∧ q < b
  · rw [if_pos h3, ite_self, if_pos (by omega)]
  · rw [if_neg h3]
    by_cases h4 : (f = 11 ∨ f = 12) ∧ b ≤ q ∧ q < e
    · rw [if_pos h4, if_pos (by omega)]
    · rw [if_neg h4, if_neg (by omega)]
theorem ls_zt_O1 (h : ls_O1 σ) (b e : Nat) : ls_O1 (ls_zt σ b e) := by
  unfold ls_O1
  rw [ls_zt_f σ b e (f := 0) (by omega), ls_zt_f σ b e (f := 1) (by omega), ls_zt_f σ b e (f := 2) (by omega), ls_zt_f σ b e (f := 3) (by omega)]
  exact h
theorem cl_memFT (h : lc n σ B M) (h1 : ls_O1 σ) {p c s : Nat} (hp : p < 5) (hc : c < σ 3 0) (hs : s < σ 0 c) : ∃ M1, f_X8_forgetToday M (some (lc_mu n M p c s)) = some M1 ∧ lc n (mm_u (mm_u σ 12 (480 * p + 4 * c + s) 0) 11 (480 * p + 4 * c + s) 0) B M1 ∧ lc_sk M M1 := by
  have ka := ((h.1.2.2.2.1 p hp c hc).2.2.2.2.2 s hs).2.1
  have w1 := lc_wm h hp hc hs (k := 5) (by omega) h1 0
  have w2 := lc_wm (n := n) (B := B) w1 hp (c := c) (s := s) hc hs (k := 6) (by omega) h1 0
  exact ⟨_, bx (pe_pZ 5 ka (Or.inl rfl)) (bx (pe_pI 6 _ ka) rfl), w2, ⟨rfl, rfl, rfl⟩⟩
theorem cl_handFT (h : lc n σ B M) (h1 : ls_O1 σ) {p c : Nat} (hp : p < 5) (hc : c < σ 3 0) : ∃ M1, f_X5_forgetToday M (some (lc_hd n M p c)) = some M1 ∧ lc n (ls_zt σ (480 * p + 4 * c) (480 * p + 4 * c + 4)) B M1 ∧ lc_sk M M1 := by
  have h4 := (h1.2.1 c hc).2
  have h120 := h1.1
  obtain ⟨M1, hr, hl, hs⟩ := pe_cnt (body := fun x : mm_M × Int32 => f_X5_forgetToday_2 x.1 (some (lc_hd n M p c)) x.2) (x := (M, 0))
    (fun i x => ∃ M1, x = (M1, nI i) ∧ lc n (ls_zt σ (480 * p + 4 * c) (480 * p + 4 * c + i)) B M1 ∧ lc_sk M M1)
    (fun M1 => lc n (ls_zt σ (480 * p + 4 * c) (480 * p + 4 * c + σ 0 c)) B M1 ∧ lc_sk M M1) (σ 0 c) ⟨M, rfl, by rw [Nat.add_zero, ls_zt_0]; exact h, lc_sk_rf M⟩ (by
      rintro i x hi ⟨M1, rfl, hl, hs⟩
      have O1 := ls_zt_O1 h1 (480 * p + 4 * c) (480 * p + 4 * c + i)
      have e3 : ls_zt σ (480 * p + 4 * c) (480 * p + 4 * c + i) 3 0 = σ 3 0 := congrFun (ls_zt_f _ _ _ (f := 3) (by omega)) 0
      have e0 : ls_zt σ (480 * p + 4 * c) (480 * p + 4 * c + i) 0 c = σ 0 c := congrFun (ls_zt_f _ _ _ (f := 0) (by omega)) c
      obtain ⟨M2, f2, l2, s2⟩ := cl_memFT hl O1 (p := p) (c := c) (s := i) hp (by rw [e3]; exact hc) (by rw [e0]; exact hi)
      rw [ls_zt_u] at l2
      refine ⟨(M2, nI (i + 1)), ?_, M2, rfl, l2, lc_sk_tr hs s2⟩
      rw [← lc_sk_hd hs]
      refine bx (lc_hR hl hp (by rw [e3]; exact hc)) (bx (lc_hl hl hp (by rw [e3]; exact hc)) (iff_ (show ¬ nI (ls_zt σ (480 * p + 4 * c) (480 * p + 4 * c + i) 0 c) ≤ nI i by rw [e0]; exact nI_ge hi (by omega)) (bx (lc_hR hl hp (by rw [e3]; exact hc)) (bx (lc_ha hl hp (by rw [e3]; exact hc) (by rw [e0]; exact hi) (by rw [e0]; exact h4)) (bx (lc_hrc hl hp (by rw [e3]; exact hc) (by rw [e0]; exact hi)) (bx f2 ?_))))))
      show some (Sum.inl (M2, nI i + 1)) = _
      rw [nI_1]) (by
      rintro x ⟨M1, rfl, hl, hs⟩
      have e3 : ls_zt σ (480 * p + 4 * c) (480 * p + 4 * c + σ 0 c) 3 0 = σ 3 0 := congrFun (ls_zt_f _ _ _ (f := 3) (by omega)) 0
      have e0 : ls_zt σ (480 * p + 4 * c) (480 * p + 4 * c + σ 0 c) 0 c = σ 0 c := congrFun (ls_zt_f _ _ _ (f := 0) (by omega)) c
      refine ⟨M1, ?_, hl, hs⟩
      rw [← lc_sk_hd hs]
      exact bx (lc_hR hl hp (by rw [e3]; exact hc)) (bx (lc_hl hl hp (by rw [e3]; exact hc)) (ift (show nI (ls_zt σ (480 * p + 4 * c) (480 * p + 4 * c + σ 0 c) 0 c) ≤ nI (σ 0 c) by rw [e0]; exact nI_le (Nat.le_refl _) (by omega)) (mpx rfl))))
  refine ⟨M1, hr, lc_cg hl (fun f a _ => ?_) (fun q hq d hd s hs2 f a b => ?_), hs⟩
  · rw [ls_zt_f _ _ _ (by omega), ls_zt_f _ _ _ (by omega)]
  · have e3 : ls_zt σ (480 * p + 4 * c) (480 * p + 4 * c + σ 0 c) 3 0 = σ 3 0 := congrFun (ls_zt_f _ _ _ (f := 3) (by omega)) 0
    have e0 : ls_zt σ (480 * p + 4 * c) (480 * p + 4 * c + σ 0 c) 0 d = σ 0 d := congrFun (ls_zt_f _ _ _ (f := 0) (by omega)) d
    rw [e3] at hd
    rw [e0] at hs2
    have hd4 := (h1.2.1 d hd).2
    unfold ls_zt
    by_cases h3 : (f = 11 ∨ f = 12) ∧ 480 * p + 4 * c ≤ 480 * q + 4 * d + s ∧ 480 * q + 4 * d + s < 480 * p + 4 * c + σ 0 c
    · rw [if_pos h3, if_pos (by omega)]
    · rw [if_neg h3]
      refine if_neg (fun z => h3 ⟨z.1, z.2.1, ?_⟩)
      have : d = c := by omega
      subst this
      omega
theorem lc_hrcd (h : lc n σ B M) {p c : Nat} (hp : p < 5) (hc : c < σ 3 0) : mm_rc M (some (lc_hd n M p c)) 6 = some () := pe_rc (h.1.2.2.2.1 p hp c hc).1
theorem lc_hcc (h : lc n σ B M) {p c : Nat} (hp : p < 5) (hc : c < σ 3 0) : mm_cc M (some (lc_hd n M p c)) 6 = some () := pe_cc (h.1.2.2.2.1 p hp c hc).1
/-- a learner's list of hands, as a loop reads it -/
theorem lc_lR (h : lc n σ B M) {p : Nat} (hp : p < 5) : mm_fR M (some (n + lc_lo p)) 7 0 = some (some (n + (lc_lo p + 1))) := pfR (lc_kla h hp) (lc_rlh h hp)
theorem lc_lrc (h : lc n σ B M) {p : Nat} (hp : p < 5) : mm_rc M (some (n + (lc_lo p + 1))) 0 = some () := pe_rc (lc_klh h hp)
theorem lc_lsz (h : lc n σ B M) {p : Nat} (hp : p < 5) : f_Jx4a65c_size_8abf5 M (some (n + (lc_lo p + 1))) = some (nI (σ 3 0)) := by
  rw [lc_size (lc_klh h hp), h.2.1.2.2.2.1.1 p hp]
theorem lc_lget (h : lc n σ B M) (h3 : σ 3 0 ≤ 120) {p c : Nat} (hp : p < 5) (hc : c < σ 3 0) : f_Jx4a65c_get_915e3 M (some (n + (lc_lo p + 1))) (nI c) = some (some (lc_hd n M p c)) := lc_get (lc_klh h hp) (h.1.2.2.1.1 p hp) (h.2.1.2.2.2.1.1 p hp) (by omega) hc
theorem cl_beginDay (h : lc n σ B M) (h1 : ls_O1 σ) (h4 : ls_O4 σ) {p t : Nat} (hp : p < 4) : ∃ M1, f_X6_beginDay M (some (n + lc_lo p)) (nI t) = some M1 ∧ lc n (ls_zt (mm_u (mm_u σ 8 p t) 10 p 0) (480 * p) (480 * p + 480)) B M1 := by
  have h120 := h1.1
  have np : p < 5 := by omega
  have hd : lc_di (lc_rc n p) M (mm_sI (mm_sI M (n + lc_lo p) 3 (nI t)) (n + lc_lo p) 2 0) := lc_di_I (lc_di_I (lc_di_rf _ M) (Or.inl rfl) _ _) (Or.inl rfl) _ _
  have w := lc_row (τ := mm_u (mm_u σ 8 p t) 10 p 0) h hp hd (ls_rs_10 (ls_rs_8 (ls_rs_rf σ p) t) 0) h4 h120 (by rw [mm_II, if_neg (by omega), mm_II, if_pos ⟨rfl, rfl⟩]; show nI t = nI (mm_u (mm_u σ 8 p t) 10 p 0 8 p); rw [mm_u, if_neg (by omega), mm_u, if_pos ⟨rfl, rfl⟩]) (by rw [mm_II, if_pos ⟨rfl, rfl⟩, mm_u, if_pos ⟨rfl, rfl⟩]; rfl) (fun i hi => by rw [mm_u, if_pos ⟨rfl, rfl⟩] at hi; omega)
  have eA : mm_pI M (some (n + lc_lo p)) 7 3 (nI t) = some (mm_sI M (n + lc_lo p) 3 (nI t)) := pe_pI 3 _ (lc_kla h np)
  have eB : mm_pI (mm_sI M (n + lc_lo p) 3 (nI t)) (some (n + lc_lo p)) 7 2 0 = some (mm_sI (mm_sI M (n + lc_lo p) 3 (nI t)) (n + lc_lo p) 2 0) := pe_pI 2 _ (lc_kla h np)
  generalize mm_sI (mm_sI M (n + lc_lo p) 3 (nI t)) (n + lc_lo p) 2 0 = M0 at hd w eB
  have hO : ls_O1 (mm_u (mm_u σ 8 p t) 10 p 0) := h1
  have e3' : mm_u (mm_u σ 8 p t) 10 p 0 3 0 = σ 3 0 := rfl
  generalize mm_u (mm_u σ 8 p t) 10 p 0 = υ at w hO e3'
  obtain ⟨M1, hr, hl⟩ := pe_cnt (body := fun x : mm_M × Int32 => f_X6_beginDay_12 x.1 (some (n + lc_lo p)) x.2) (x := (M0, 0)) (fun i x => ∃ M1, x = (M1, nI i) ∧ lc n (ls_zt υ (480 * p) (480 * p + 4 * i)) B M1) (fun M1 => lc n (ls_zt υ (480 * p) (480 * p + 4 * σ 3 0)) B M1) (σ 3 0) ⟨M0, rfl, by rw [Nat.mul_zero, Nat.add_zero, ls_zt_0]; exact w⟩ (by
      rintro i x hi ⟨M1, rfl, hl⟩
      have O1 := ls_zt_O1 hO (480 * p) (480 * p + 4 * i)
      have e3 : ls_zt υ (480 * p) (480 * p + 4 * i) 3 0 = σ 3 0 := (congrFun (ls_zt_f _ _ _ (f := 3) (by omega)) 0).trans e3'
      obtain ⟨M2, f2, l2, s2⟩ := cl_handFT hl O1 (p := p) (c := i) np (by rw [e3]; exact hi)
      rw [ls_zt_tr υ (by omega) (by omega)] at l2
      refine ⟨(M2, nI (i + 1)), bx (lc_lR hl np) (bx (lc_lrc hl np) (bx (lc_lsz hl np) (iff_ (show ¬ nI (ls_zt υ (480 * p) (480 * p + 4 * i) 3 0) ≤ nI i by rw [e3]; exact nI_ge hi (by omega)) (bx (lc_lR hl np) (bx (lc_lrc hl np) (bx (lc_lget hl (by rw [e3]; exact h120) np (by rw [e3]; exact hi)) (bx (lc_hcc hl np (by rw [e3]; exact hi)) (bx (lc_hrcd hl np (by rw [e3]; exact hi)) (bx f2 ?_))))))))), M2, rfl, l2⟩
      show some (Sum.inl (M2, nI i + 1)) = _
      rw [nI_1]) (by
      rintro x ⟨M1, rfl, hl⟩
      have e3 : ls_zt υ (480 * p) (480 * p + 4 * σ 3 0) 3 0 = σ 3 0 := (congrFun (ls_zt_f _ _ _ (f := 3) (by omega)) 0).trans e3'
      exact ⟨M1, bx (lc_lR hl np) (bx (lc_lrc hl np) (bx (lc_lsz hl np) (ift (show nI (ls_zt υ (480 * p) (480 * p + 4 * σ 3 0) 3 0) ≤ nI (σ 3 0) by rw [e3]; exact nI_le (Nat.le_refl _) (by omega)) (mpx rfl)))), hl⟩)
  refine ⟨M1, bx eA (bx eB hr), lc_cg hl (fun f a _ => ?_) (fun q hq d hd s hs2 f a b => ?_)⟩
  · rw [ls_zt_f _ _ _ (by omega), ls_zt_f _ _ _ (by omega)]
  · have e3 : ls_zt υ (480 * p) (480 * p + 4 * σ 3 0) 3 0 = σ 3 0 := (congrFun (ls_zt_f _ _ _ (f := 3) (by omega)) 0).trans e3'
    have e0 : ls_zt υ (480 * p) (480 * p + 4 * σ 3 0) 0 d = υ 0 d := congrFun (ls_zt_f _ _ _ (f := 0) (by omega)) d
    rw [e3] at hd
    rw [e0] at hs2
    have hd4 := (hO.2.1 d (by rw [e3']; exact hd)).2
    unfold ls_zt
    by_cases h3 : (f = 11 ∨ f = 12) ∧ 480 * p ≤ 480 * q + 4 * d + s ∧ 480 * q + 4 * d + s < 480 * p + 4 * σ 3 0
    · rw [if_pos h3, if_pos (by omega)]
    · rw [if_neg h3]
      exact if_neg (fun z => h3 ⟨z.1, z.2.1, by omega⟩)
theorem lc_X6kc (h : lc n σ B M) {p : Nat} (hp : p < 4) : mm_rc M (some (n + lc_lo p)) 7 = some () := pe_rc (lc_kla h (by omega))
theorem ls_G_day {p t : Nat} (h : ls_G k σ) (hp : p < 4) (ht : σ 8 p ≤ t) (h5 : t ≤ 100000) : ls_G k (ls_zt (mm_u (mm_u σ 8 p t) 10 p 0) (480 * p) (480 * p + 480)) := by
  obtain ⟨g1, g2, g3, g4, g5, g6, g7, g8⟩ := h
  have e : ∀ f, f ≠ 8 ∧ f ≠ 10 ∧ f ≠ 11 ∧ f ≠ 12 → ls_zt (mm_u (mm_u σ 8 p t) 10 p 0) (480 * p) (480 * p + 480) f = σ f := fun f hf => by
    rw [ls_zt_f _ _ _ (by omega)]
    funext j
    rw [mm_u, if_neg (fun z => hf.2.1 z.1), mm_u, if_neg (fun z => hf.1 z.1)]
  have e8 : ∀ q, ls_zt (mm_u (mm_u σ 8 p t) 10 p 0) (480 * p) (480 * p + 480) 8 q = if q = p then t else σ 8 q := fun q => by
    rw [ls_zt_f _ _ _ (by omega), mm_u, if_neg (by omega), mm_u]
    by_cases hq : q = p
    · rw [if_pos ⟨rfl, hq⟩, if_pos hq]
    · rw [if_neg (fun z => hq z.2), if_neg hq]
  have e10 : ∀ q, ls_zt (mm_u (mm_u σ 8 p t) 10 p 0) (480 * p) (480 * p + 480) 10 q = if q = p then 0 else σ 10 q := fun q => by
    rw [ls_zt_f _ _ _ (by omega), mm_u]
    by_cases hq : q = p
    · rw [if_pos ⟨rfl, hq⟩, if_pos hq]
    · rw [if_neg (fun z => hq z.2), if_neg hq, mm_u, if_neg (by omega)]
  have e1 : ∀ f q, f = 11 ∨ f = 12 → ls_zt (mm_u (mm_u σ 8 p t) 10 p 0) (480 * p) (480 * p + 480) f q = 0 ∨ ls_zt (mm_u (mm_u σ 8 p t) 10 p 0) (480 * p) (480 * p + 480) f q = σ f q := fun f q hf => by
    unfold ls_zt
    split
    · exact Or.inl rfl
    · refine Or.inr ?_
      rw [mm_u, if_neg (by omega), mm_u, if_neg (by omega)]
  generalize ls_zt (mm_u (mm_u σ 8 p t) 10 p 0) (480 * p) (480 * p + 480) = τ at *
  have hup : ∀ q, σ 8 q ≤ τ 8 q := fun q => by
    rw [e8]
    split
    · rename_i hq; rw [hq]; exact ht
    · exact Nat.le_refl _
  have epl : ∀ q, ls_pl τ q ↔ ls_pl σ q := fun q => by unfold ls_pl; rw [e 3 (by omega), e 0 (by omega)]
  have eat : ∀ q, ls_at τ q = ls_at σ q := fun q => by
    unfold ls_at
    rw [e 13 (by omega), e 14 (by omega), e 15 (by omega), e 16 (by omega), e 17 (by omega)]
  refine ⟨?_, ?_, fun q hq i hi => ?_, fun q hq => ?_, ?_, ?_, ⟨fun q hq => ?_, fun q hq => ?_⟩, fun q hq i hi => ?_⟩
  · unfold ls_O1
    rw [e 0 (by omega), e 1 (by omega), e 2 (by omega), e 3 (by omega)]
    exact g1
  · unfold ls_O2
    rw [e 4 (by omega), e 5 (by omega), e 6 (by omega), e 7 (by omega)]
    refine ⟨g2.1, g2.2.1, g2.2.2.1, g2.2.2.2.1, fun q hq => ?_⟩
    rw [e8]
    split
    · exact h5
    · exact g2.2.2.2.2 q hq
  · rw [eat]
    exact ls_ok_up (g3 q hq i hi) (hup q)
  · rw [e10, e 3 (by omega), e 9 (by omega)]
    by_cases hqp : q = p
    · rw [if_pos hqp]
      exact ⟨Nat.zero_le _, fun i hi => absurd hi (Nat.not_lt_zero i), fun i hi => absurd hi (Nat.not_lt_zero i)⟩
    · rw [if_neg hqp]
      exact ⟨(g4 q hq).1, fun i hi => (epl _).mpr ((g4 q hq).2.1 i hi), (g4 q hq).2.2⟩
  · have ew : ∀ i, ls_was τ i = ls_was σ i := fun i => by
      unfold ls_was
      rw [e 23 (by omega), e 24 (by omega), e 25 (by omega), e 26 (by omega), e 27 (by omega)]
    unfold ls_O5
    rw [e 28 (by omega), e 18 (by omega), e 19 (by omega), e 20 (by omega), e 21 (by omega), e 22 (by omega)]
    refine ⟨g5.1, fun i hi => ?_⟩
    obtain ⟨a1, a2, a3, a4, a5, a6, a7, a8, a9⟩ := g5.2 i hi
    rw [ew i]
    exact ⟨a1, (epl _).mpr a2, Nat.le_trans a3 (hup _), a4, a5, a6, ls_ok_up a7 (hup _), a8, a9⟩
  · unfold ls_O6
    rw [e 38 (by omega), e 39 (by omega), e 40 (by omega), e 41 (by omega), e 42 (by omega), e 43 (by omega)]
    exact g6
  · rcases e1 12 q (Or.inr rfl) with h | h
    · rw [h]; omega
    · rw [h]; exact g7.1 q hq
  · rcases e1 11 q (Or.inl rfl) with h | h
    · rw [h]; omega
    · rw [h]; exact g7.2 q hq
  · rw [eat]
    refine ⟨(g8 q hq i hi).1, fun z => ?_⟩
    obtain ⟨a, b, c⟩ := (g8 q hq i hi).2 (fun y => z ((epl i).mpr y))
    refine ⟨a, ?_, ?_⟩
    · rcases e1 11 (480 * q + i) (Or.inl rfl) with h | h
      · exact h
      · rw [h, b]
    · rcases e1 12 (480 * q + i) (Or.inr rfl) with h | h
      · exact h
      · rw [h, c]
theorem ls_day (h : ls_M n σ B M) {p t : Nat} (hp : p < 4) : ∃ M1, (∀ M0, mm_tI M (some (ls_ad n 8)) (nI p) (nI t) = some M0 → (mm_fR M0 (some (n + 31)) 11 10).bind (fun x44 => (mm_tI M0 x44 (nI p) 0).bind fun M49 => f_X10_day_52w M49 (some (n + 31)) (nI p) 0) = some (nI t, M1)) ∧ ls_M n (ls_zt (mm_u (mm_u σ 8 p t) 10 p 0) (480 * p) (480 * p + 480)) B M1 := by
  obtain ⟨MA, eA, hA⟩ := ls_tI h 8 p t (by decide) rfl hp
  obtain ⟨MB, eB, hB⟩ := ls_tI hA 10 p 0 (by decide) rfl hp
  obtain ⟨r, hr, M1, rfl, hl⟩ := pe_cnt (body := fun x : mm_M × Int32 => f_X10_day_52 x.1 (some (n + 31)) (nI p) x.2) (x := (MB, 0)) (fun i x => ∃ M1, x = (M1, nI i) ∧ ls_M n (ls_zt (mm_u (mm_u σ 8 p t) 10 p 0) (480 * p) (480 * p + i)) B M1) (fun r => ∃ M1, r = (nI t, M1) ∧ ls_M n (ls_zt (mm_u (mm_u σ 8 p t) 10 p 0) (480 * p) (480 * p + 480)) B M1) 480 ⟨MB, rfl, by rw [Nat.add_zero, ls_zt_0]; exact hB⟩ (by
      rintro i x hi ⟨M1, rfl, hl⟩
      obtain ⟨M2, e2, h2⟩ := ls_tZ hl 12 (480 * p + i) 0 (by decide) rfl (show 480 * p + i < 1920 by omega) (Or.inl rfl)
      obtain ⟨M3, e3, h3⟩ := ls_tI h2 11 (480 * p + i) 0 (by decide) rfl (show 480 * p + i < 1920 by omega)
      rw [ls_zt_u] at h3
      refine ⟨(M3, nI (i + 1)), iff_ (nI_ge (b := 480) hi (by omega)) (bx (ls_fR hl 12 (by decide)) (bx (a := M2) (by rw [ls_ix2]; exact e2) (bx (ls_fR h2 11 (by decide)) (bx (a := M3) (by rw [ls_ix2]; exact e3) ?_)))), M3, rfl, h3⟩
      show some (Sum.inl (M3, nI i + 1)) = _
      rw [nI_1]) (by
      rintro x ⟨M1, rfl, hl⟩
      refine ⟨_, ift (nI_le (a := 480) (b := 480) (Nat.le_refl _) (by omega)) (mpx (bx (ls_fR hl 8 (by decide)) (bx (a := nI t) ?_ rfl))), M1, rfl, hl⟩
      rw [show nI t = ls_en 8 (ls_zt (mm_u (mm_u σ 8 p t) 10 p 0) (480 * p) (480 * p + 480) 8 p) by rw [ls_zt_f _ _ _ (by omega), mm_u, if_neg (by omega), mm_u, if_pos ⟨rfl, rfl⟩]; rfl]
      exact ls_aI hl 8 p (by decide) hp)
  refine ⟨M1, fun M0 e0 => ?_, hl⟩
  have : M0 = MA := Option.some.inj (e0.symm.trans eA)
  subst this
  exact bx (ls_fR hA 10 (by decide)) (bx eB hr)
theorem ca_day (hM : ls_M n σ M M) (hc : lc n σ M M) (hG : ls_G k σ) (x y : Int32) : ls_cc n k M (fun M => f_X9_day M (some n) x y) (fun M => f_X10_day M (some (n + 31)) x y) := by
  rcases pe_pupil x with ⟨p, hp, rfl⟩ | hx
  · have i5 := hc.2.1.2.2.2.2.1 p hp
    have t5 := hG.2.1.2.2.2.2 p hp
    have kl := lc_kla hc (show p < 5 by omega)
    have X : ∀ {r}, f_X9_day_10 M y (some (n + lc_lo p)) = r → f_X9_day M (some n) (nI p) y = r := fun q => bx (pe_rc (lc_k0 hc)) (bx (lc_learnerAt hc hp) (iff_ (fun q => nomatch q) q))
    by_cases hy : 1 ≤ y ∧ y ≤ 1000
    · obtain ⟨j, hj1, hj, rfl⟩ := pe_arg1 (n := 1000) (by omega) hy.1 hy.2
      have ea : nI (σ 8 p) + nI j = nI (σ 8 p + j) := nI_add _ _
      have X2 : ∀ {r}, f_X9_day_22 M (nI j) (some (n + lc_lo p)) = r → f_X9_day M (some n) (nI p) (nI j) = r := fun q => X (iff_ (Int32.not_lt.mpr hy.1) (iff_ (Int32.not_lt.mpr hy.2) q))
      have Y : ∀ (M : mm_M) {r}, f_X10_day_18 M (some (n + 31)) (nI p) (nI j) = r → f_X10_day M (some (n + 31)) (nI p) (nI j) = r := fun M _ q => bx (ls_isPupil_in M hp) (iff_ ne10 (bx (ls_within_in M hy) (iff_ ne10 q)))
      by_cases hs : σ 8 p + j ≤ 100000
      · obtain ⟨M1, e1, l1⟩ := cl_beginDay hc hG.1 hG.2.2.2.1 (p := p) (t := σ 8 p + j) hp
        have hM1 := ls_M_mv hM l1.2.2
        obtain ⟨M2, e2, h2⟩ := ls_day hM1 (p := p) (t := σ 8 p + j) hp
        obtain ⟨MA, eA, hA⟩ := ls_tI hM1 8 p (σ 8 p + j) (by decide) rfl hp
        refine ⟨nI (σ 8 p + j), M1, M2, X2 (bx (pfI kl i5.1) (ift (by rw [ea]; exact nI_le (b := 100000) hs (by omega)) (bx (pfI kl i5.1) (bx (pe_rc kl) (bx (a := M1) (by rw [ea]; exact e1) (bx (a := nI (σ 8 p + j)) (pfI (lc_kla l1 (by omega)) ?_) rfl)))))), Y _ (bx (ls_fR hM1 8 (by decide)) (bx (ls_aI hM1 8 p (by decide) hp) (ift (show nI (σ 8 p) + nI j ≤ nI 100000 by rw [ea]; exact nI_le hs (by omega)) (bx (ls_fR hM1 8 (by decide)) (bx (ls_aI hM1 8 p (by decide) hp) (bx (a := MA) (by show mm_tI M1 _ (nI p) (nI (σ 8 p) + nI j) = _; rw [ea]; exact eA) (e2 MA eA))))))), ls_fin h2 l1 (ls_G_day hG hp (by omega) hs)⟩
        rw [(l1.2.1.2.2.2.2.1 p hp).1, ls_zt_f _ _ _ (by omega), mm_u, if_neg (by omega), mm_u, if_pos ⟨rfl, rfl⟩]
      · refine ⟨-1, M, M, X2 (bx (pfI kl i5.1) (iff_ (by rw [ea]; exact nI_ge (a := 100000) (by omega) (by omega)) rfl)), Y _ (bx (ls_fR hM 8 (by decide)) (bx (ls_aI hM 8 p (by decide) hp) (iff_ (show ¬ nI (σ 8 p) + nI j ≤ nI 100000 by rw [ea]; exact nI_ge (by omega) (by omega)) rfl))), ls_no hM hc hG⟩
    · refine ⟨-1, M, M, X ?_, bx (ls_isPupil_in M hp) (iff_ ne10 (bx (ls_within_out M hy) (ift rfl rfl))), ls_no hM hc hG⟩
      by_cases h1 : y < 1
      · exact ift h1 rfl
      · exact iff_ h1 (ift (Int32.not_le.mp (fun q => hy ⟨Int32.not_lt.mp h1, q⟩)) rfl)
  · exact ⟨-1, M, M, bx (pe_rc (lc_k0 hc)) (bx (lc_learnerOut hc hx) (ift rfl rfl)), bx (ls_isPupil_out M hx) (ift rfl rfl), ls_no hM hc hG⟩
end
