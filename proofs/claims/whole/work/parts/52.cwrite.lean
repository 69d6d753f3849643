theorem lc_lov {p : Nat} (hp : p < 5) : (p = 4 ∧ lc_lo p = 8) ∨ (p < 4 ∧ lc_lo p = 19 + 3 * p) := by
  unfold lc_lo
  by_cases h : p = 4
  · rw [if_pos h]; exact Or.inl ⟨h, rfl⟩
  · rw [if_neg h]; exact Or.inr ⟨by omega, rfl⟩
section
variable {n : Nat} {σ τ : ls_S} {B M : mm_M}
-- the state's parts on which the parts of the relation rest
theorem lc_Kσ (h : lc_K n σ M) (h3 : τ 3 0 = σ 3 0) (h0 : τ 0 = σ 0) (h28 : τ 28 0 = σ 28 0) : lc_K n τ M := by
  unfold lc_K
  rw [h3, h0, h28]
  exact h
theorem lc_mf_I (h : lc_mf n B M) {a : Nat} (ha : a < n + 31 ∨ n + 63 ≤ a) (k : Nat) (v : Int32) : lc_mf n B (mm_sI M a k v) := by
  intro b h1 h2
  refine ⟨(h b h1 h2).1, fun j => ?_, (h b h1 h2).2.2⟩
  rw [mm_II, if_neg (by omega)]
  exact (h b h1 h2).2.1 j
theorem lc_mf_L (h : lc_mf n B M) {a : Nat} (ha : a < n + 31 ∨ n + 63 ≤ a) (k : Nat) (v : Int64) : lc_mf n B (mm_sL M a k v) := by
  intro b h1 h2
  refine ⟨(h b h1 h2).1, (h b h1 h2).2.1, (h b h1 h2).2.2.1, fun j => ?_⟩
  rw [mm_LL, if_neg (by omega)]
  exact (h b h1 h2).2.2.2 j
-- a store elsewhere
theorem lc_e1 (h : lc_I1 n σ M) {a : Nat} (k : Nat) (v : Int32) (ha : a ≠ n) : lc_I1 n σ (mm_sI M a k v) := by
  unfold lc_I1
  simp only [mm_II]
  rw [if_neg (fun e => ha e.1.symm), if_neg (fun e => ha e.1.symm), if_neg (fun e => ha e.1.symm)]
  exact h
theorem lc_e2 (h : lc_I2 n σ M) {a : Nat} (k : Nat) (v : Int32) (ha : a ≠ n + 18) : lc_I2 n σ (mm_sI M a k v) := by
  intro i hi
  rw [mm_II, if_neg (fun e => ha e.1.symm)]
  exact h i hi
theorem lc_e3 (h : lc_I3 n M) {a : Nat} (k : Nat) (v : Int32) (ha : a ≠ n + 1) (ha2 : a ≠ n + 2) : lc_I3 n (mm_sI M a k v) := by
  refine ⟨?_, fun i hi => ?_⟩
  · rw [mm_II, if_neg (fun e => ha e.1.symm)]
    exact h.1
  · rw [mm_II, if_neg (fun e => ha2 e.1.symm)]
    exact h.2 i hi
theorem lc_e4 (h : lc_I4 n σ M) {a : Nat} (k : Nat) (v : Int32) (ha : ∀ p, p < 5 → a ≠ n + (lc_lo p + 1)) (ha2 : a ≠ n + 4) (ha3 : a ≠ n + 11) : lc_I4 n σ (mm_sI M a k v) := by
  refine ⟨fun p hp => ?_, ?_, ?_⟩
  · rw [mm_II, if_neg (fun e => ha p hp e.1.symm)]
    exact h.1 p hp
  · rw [mm_II, if_neg (fun e => ha2 e.1.symm)]
    exact h.2.1
  · rw [mm_II, if_neg (fun e => ha3 e.1.symm)]
    exact h.2.2
theorem lc_e5 (h : lc_I5 n σ M) {a : Nat} (k : Nat) (v : Int32) (ha : ∀ p, p < 4 → a ≠ n + lc_lo p) : lc_I5 n σ (mm_sI M a k v) := by
  intro p hp
  rw [mm_II, mm_II, if_neg (fun e => ha p hp e.1.symm), if_neg (fun e => ha p hp e.1.symm)]
  exact h p hp
theorem lc_e6 (h : lc_I6 n σ M) {a : Nat} (k : Nat) (v : Int32) (ha : ∀ p, p < 4 → a ≠ n + (lc_lo p + 2)) : lc_I6 n σ (mm_sI M a k v) := by
  intro p hp i hi
  rw [mm_II, if_neg (fun e => ha p hp e.1.symm)]
  exact h p hp i hi
theorem lc_e7 (h : lc_I7 n σ M) {a : Nat} (k : Nat) (v : Int32) (ha : ∀ p, p < 5 → ∀ c, c < σ 3 0 → ∀ s, s < σ 0 c → a ≠ lc_mu n M p c s) : lc_I7 n σ (mm_sI M a k v) := by
  intro p hp c hc s hs i hi
  rw [mm_II, if_neg (fun e => ha p hp c hc s hs e.1.symm)]
  exact h p hp c hc s hs i hi
theorem lc_e8 (h : lc_I8 n σ M) {a : Nat} (k : Nat) (v : Int32) (ha : ∀ c, c < σ 3 0 → a ≠ lc_kd n M c ∧ a ≠ lc_kl n M c) : lc_I8 n σ (mm_sI M a k v) := by
  intro c hc
  refine ⟨?_, fun i hi => ?_⟩
  · rw [mm_II, if_neg (fun e => (ha c hc).1 e.1.symm)]
    exact (h c hc).1
  · rw [mm_II, if_neg (fun e => (ha c hc).2 e.1.symm)]
    exact (h c hc).2 i hi
theorem lc_e9 (h : lc_I9 n σ M) {a : Nat} (k : Nat) (v : Int32) (ha : ∀ i, i < σ 28 0 → a ≠ lc_en n M i ∧ a ≠ lc_bf n M i) : lc_I9 n σ (mm_sI M a k v) := by
  intro i hi
  refine ⟨?_, fun j hj => ?_⟩
  · have e : ∀ j, mm_I (mm_sI M a k v) (lc_en n M i) j = mm_I M (lc_en n M i) j := fun j => by rw [mm_II, if_neg (fun e => (ha i hi).1 e.1.symm)]
    show mm_I (mm_sI M a k v) (lc_en n M i) 0 = _ ∧ mm_I (mm_sI M a k v) (lc_en n M i) 1 = _ ∧ mm_I (mm_sI M a k v) (lc_en n M i) 2 = _ ∧ mm_I (mm_sI M a k v) (lc_en n M i) 3 = _ ∧ mm_I (mm_sI M a k v) (lc_en n M i) 4 = _ ∧ mm_I (mm_sI M a k v) (lc_en n M i) 5 = _
    rw [e, e, e, e, e, e]
    exact (h i hi).1
  · rw [mm_II, if_neg (fun e => (ha i hi).2 e.1.symm)]
    exact (h i hi).2 j hj
theorem lc_ea (h : lc_Ia n σ M) {a : Nat} (k : Nat) (v : Int32) (ha : a ≠ n + 12) (ha2 : a ≠ n + 14) (ha3 : a ≠ n + 15) : lc_Ia n σ (mm_sI M a k v) := by
  refine ⟨h.1, ?_, fun h1 => ⟨fun d hd => ?_, fun q hq => ?_⟩⟩
  · rw [mm_II, if_neg (fun e => ha e.1.symm)]
    exact h.2.1
  · rw [mm_II, if_neg (fun e => ha3 e.1.symm)]
    exact (h.2.2 h1).1 d hd
  · rw [mm_II, if_neg (fun e => ha2 e.1.symm)]
    exact (h.2.2 h1).2 q hq
theorem lc_eb (h : lc_Ib n σ M) {a : Nat} (k : Nat) (v : Int32) (ha : a ≠ n + 16) : lc_Ib n σ (mm_sI M a k v) := by
  have e : ∀ j, mm_I (mm_sI M a k v) (n + 16) j = mm_I M (n + 16) j := fun j => by rw [mm_II, if_neg (fun e => ha e.1.symm)]
  unfold lc_Ib
  rw [e, e, e, e, e]
  exact h
-- the state elsewhere
def lc_sx (σ τ : ls_S) (l : List Nat) : Prop := ∀ f, f ∈ l → τ f = σ f
theorem lc_s4 (h : lc_I4 n σ M) (h3 : τ 3 0 = σ 3 0) (h28 : τ 28 0 = σ 28 0) : lc_I4 n τ M := by unfold lc_I4; rw [h3, h28]; exact h
theorem lc_s6 (h : lc_I6 n σ M) (h9 : τ 9 = σ 9) (h10 : τ 10 = σ 10) : lc_I6 n τ M := by unfold lc_I6; rw [h9, h10]; exact h
theorem lc_s7 (h : lc_I7 n σ M) (h3 : τ 3 0 = σ 3 0) (h0 : τ 0 = σ 0) (hs : ∀ f, 11 ≤ f → f ≤ 17 → τ f = σ f) : lc_I7 n τ M := by
  have hf : ∀ k, k < 7 → 11 ≤ lc_fl k ∧ lc_fl k ≤ 17 := by decide
  unfold lc_I7
  rw [h3, h0]
  intro p hp c hc s hs2 k hk
  rw [hs _ (hf k hk).1 (hf k hk).2]
  exact h p hp c hc s hs2 k hk
theorem lc_s8 (h : lc_I8 n σ M) (h3 : τ 3 0 = σ 3 0) (h1 : τ 1 = σ 1) (h2 : τ 2 = σ 2) : lc_I8 n τ M := by unfold lc_I8; rw [h3, h1, h2]; exact h
theorem lc_s9 (h : lc_I9 n σ M) (h28 : τ 28 0 = σ 28 0) (hs : ∀ f, 18 ≤ f → f ≤ 27 → τ f = σ f) : lc_I9 n τ M := by
  unfold lc_I9
  rw [h28, hs 18 (by omega) (by omega), hs 19 (by omega) (by omega), hs 20 (by omega) (by omega), hs 21 (by omega) (by omega), hs 22 (by omega) (by omega)]
  intro i hi
  refine ⟨(h i hi).1, fun k hk => ?_⟩
  rw [hs (23 + k) (by omega) (by omega)]
  exact (h i hi).2 k hk
/-- the relation's state changed where it says nothing -/
theorem lc_σ (h : lc n σ B M) (hs : ls_v σ τ) : lc n τ B M := by
  have e : ∀ f, (f < 29 ∨ 33 < f) → f ≠ 45 → τ f = σ f := fun f a b => hs f (ls_nx_of a b)
  obtain ⟨hK, ⟨i1, i2, i3, i4, i5, i6, i7, i8, i9, ia, ib, ic⟩, hm⟩ := h
  refine ⟨lc_Kσ hK (by rw [e 3 (by omega) (by omega)]) (e 0 (by omega) (by omega)) (by rw [e 28 (by omega) (by omega)]), ⟨?_, ?_, i3, lc_s4 i4 (by rw [e 3 (by omega) (by omega)]) (by rw [e 28 (by omega) (by omega)]), ?_, lc_s6 i6 (e 9 (by omega) (by omega)) (e 10 (by omega) (by omega)), lc_s7 i7 (by rw [e 3 (by omega) (by omega)]) (e 0 (by omega) (by omega)) (fun f a b => e f (by omega) (by omega)), lc_s8 i8 (by rw [e 3 (by omega) (by omega)]) (e 1 (by omega) (by omega)) (e 2 (by omega) (by omega)), lc_s9 i9 (by rw [e 28 (by omega) (by omega)]) (fun f a b => e f (by omega) (by omega)), ?_, ?_, ?_⟩, hm⟩
  · unfold lc_I1; rw [e 4 (by omega) (by omega), e 6 (by omega) (by omega), e 7 (by omega) (by omega)]; exact i1
  · unfold lc_I2; rw [e 5 (by omega) (by omega)]; exact i2
  · unfold lc_I5; rw [e 8 (by omega) (by omega), e 10 (by omega) (by omega)]; exact i5
  · unfold lc_Ia; rw [e 37 (by omega) (by omega), e 36 (by omega) (by omega), e 35 (by omega) (by omega)]; exact ia
  · unfold lc_Ib; rw [e 39 (by omega) (by omega), e 40 (by omega) (by omega), e 41 (by omega) (by omega), e 42 (by omega) (by omega), e 43 (by omega) (by omega)]; exact ib
  · unfold lc_Ic; rw [e 38 (by omega) (by omega), e 39 (by omega) (by omega)]; exact ic
theorem lc_kne {a b : Nat} {x y : Nat × Nat} (ha : mm_k M a = some x) (hb : mm_k M b = some y) (hne : x ≠ y) : a ≠ b := fun e => hne (Option.some.inj (ha.symm.trans ((congrArg (mm_k M) e).trans hb)))
/-- a number of a memory written -/
theorem lc_wm (h : lc n σ B M) {p c s k : Nat} (hp : p < 5) (hc : c < σ 3 0) (hs : s < σ 0 c) (hk : k < 7) (h1 : ls_O1 σ) (v : Nat) : lc n (mm_u σ (lc_fl k) (480 * p + 4 * c + s) v) B (mm_sI M (lc_mu n M p c s) k (ls_en (lc_fl k) v)) := by
  have hf : ∀ k, k < 7 → 11 ≤ lc_fl k ∧ lc_fl k ≤ 17 := by decide
  have hfi : ∀ j, j < 7 → ∀ k, k < 7 → lc_fl j = lc_fl k → j = k := by decide
  have hfk := hf k hk
  have eu : ∀ f, f < 11 ∨ 17 < f → mm_u σ (lc_fl k) (480 * p + 4 * c + s) v f = σ f := fun f hff => by
    funext j
    rw [mm_u, if_neg (fun e => by have := e.1; omega)]
  obtain ⟨hK, ⟨i1, i2, i3, i4, i5, i6, i7, i8, i9, ia, ib, ic⟩, hm⟩ := h
  have hd := (hK.2.2.2.1 p hp c hc).2.2.2.2.2 s hs
  have hd2 := hd.2.2
  have hlo : ∀ p, p < 5 → lc_lo p ≤ 29 := fun p hp => by have := lc_lov hp; omega
  refine ⟨lc_Kσ (show lc_K n σ (mm_sI M (lc_mu n M p c s) k (ls_en (lc_fl k) v)) from hK) (by rw [eu 3 (by omega)]) (eu 0 (by omega)) (by rw [eu 28 (by omega)]), ⟨?_, ?_, lc_e3 i3 _ _ (by omega) (by omega), ?_, ?_, ?_, ?_, ?_, ?_, ?_, ?_, ?_⟩, lc_mf_I hm (by omega) _ _⟩
  · have := lc_e1 i1 (a := lc_mu n M p c s) k (ls_en (lc_fl k) v) (by omega)
    unfold lc_I1; rw [eu 4 (by omega), eu 6 (by omega), eu 7 (by omega)]; exact this
  · have := lc_e2 i2 (a := lc_mu n M p c s) k (ls_en (lc_fl k) v) (by omega)
    unfold lc_I2; rw [eu 5 (by omega)]; exact this
  · exact lc_s4 (lc_e4 i4 _ _ (fun p hp => by have := hlo p hp; omega) (by omega) (by omega)) (by rw [eu 3 (by omega)]) (by rw [eu 28 (by omega)])
  · have := lc_e5 i5 (a := lc_mu n M p c s) k (ls_en (lc_fl k) v) (fun p hp => by have := hlo p (by omega); omega)
    unfold lc_I5; rw [eu 8 (by omega), eu 10 (by omega)]; exact this
  · exact lc_s6 (lc_e6 i6 _ _ (fun p hp => by have := hlo p (by omega); omega)) (eu 9 (by omega)) (eu 10 (by omega))
  · unfold lc_I7
    rw [eu 3 (by omega), eu 0 (by omega)]
    intro p2 hp2 c2 hc2 s2 hs2 k2 hk2
    by_cases e : lc_mu n M p2 c2 s2 = lc_mu n M p c s ∧ k2 = k
    · obtain ⟨rfl, rfl, rfl⟩ := hK.2.2.2.2.1 p2 hp2 c2 hc2 s2 hs2 p hp c hc s hs e.1
      obtain ⟨-, rfl⟩ := e
      show mm_I (mm_sI M (lc_mu n M p2 c2 s2) k2 (ls_en (lc_fl k2) v)) (lc_mu n M p2 c2 s2) k2 = _
      rw [mm_II, if_pos ⟨rfl, rfl⟩, mm_u, if_pos ⟨rfl, rfl⟩]
    · show mm_I (mm_sI M (lc_mu n M p c s) k (ls_en (lc_fl k) v)) (lc_mu n M p2 c2 s2) k2 = _
      have hne : ¬ (lc_fl k2 = lc_fl k ∧ 480 * p2 + 4 * c2 + s2 = 480 * p + 4 * c + s) := by
        rintro ⟨e1, e2⟩
        have ek := hfi k2 hk2 k hk e1
        have b1 := (h1.2.1 c hc).2
        have b2 := (h1.2.1 c2 hc2).2
        have b3 := h1.1
        have : p2 = p ∧ c2 = c ∧ s2 = s := by omega
        exact e ⟨by rw [this.1, this.2.1, this.2.2], ek⟩
      rw [mm_II, if_neg e, mm_u, if_neg hne]
      exact i7 p2 hp2 c2 hc2 s2 hs2 k2 hk2
  · exact lc_s8 (lc_e8 i8 _ _ (fun c2 hc2 => ⟨lc_kne hd.2.1 (hK.2.2.2.2.2.1 c2 hc2).1 (by decide), lc_kne hd.2.1 (hK.2.2.2.2.2.1 c2 hc2).2.2.2.1 (by decide)⟩)) (by rw [eu 3 (by omega)]) (eu 1 (by omega)) (eu 2 (by omega))
  · exact lc_s9 (lc_e9 i9 _ _ (fun i hi => ⟨lc_kne hd.2.1 (hK.2.2.2.2.2.2.2 i hi).1 (by decide), fun e => (hK.2.2.2.2.2.2.2 i hi).2.2.2.2.2 p hp c hc s hs e.symm⟩)) (by rw [eu 28 (by omega)]) (fun f a b => eu f (by omega))
  · have := lc_ea ia (a := lc_mu n M p c s) k (ls_en (lc_fl k) v) (by omega) (by omega) (by omega)
    unfold lc_Ia; rw [eu 37 (by omega), eu 36 (by omega), eu 35 (by omega)]; exact this
  · have := lc_eb ib (a := lc_mu n M p c s) k (ls_en (lc_fl k) v) (by omega)
    unfold lc_Ib; rw [eu 39 (by omega), eu 40 (by omega), eu 41 (by omega), eu 42 (by omega), eu 43 (by omega)]; exact this
  · unfold lc_Ic; rw [eu 38 (by omega), eu 39 (by omega)]; exact ic
end
