-- the two worlds side by side
theorem ls_M_rf {n : Nat} {σ : ls_S} {B M : mm_M} (h : ls_M n σ B M) : ls_M n σ M M := ⟨h.1, h.2.1, h.2.2.1, h.2.2.2.1, ls_mf_rf n M⟩
theorem lc_mf_rf (n : Nat) (M : mm_M) : lc_mf n M M := fun _ _ _ => ⟨rfl, fun _ => rfl, fun _ => rfl, fun _ => rfl⟩
theorem lc_rf {n : Nat} {σ : ls_S} {B M : mm_M} (h : lc n σ B M) : lc n σ M M := ⟨h.1, h.2.1, lc_mf_rf n M⟩
/-- the model is what it was after a call of the class -/
theorem ls_M_mv {n : Nat} {σ : ls_S} {B M M1 : mm_M} (h : ls_M n σ B M) (hm : lc_mf n M M1) : ls_M n σ M1 M1 := by
  have ha : ∀ f, f ∈ ls_aF ∨ f = 38 → n + 31 ≤ ls_ad n f ∧ ls_ad n f < n + 63 := fun f hf => by
    have := ls_ad_lt hf
    unfold ls_ad
    omega
  have m0 := hm (n + 31) (by omega) (by omega)
  have m38 := hm (ls_ad n 38) (ha 38 (Or.inr rfl)).1 (ha 38 (Or.inr rfl)).2
  refine ⟨⟨m0.1.trans h.1.1, fun f hf => ?_, (m0.2.2.1 38).trans h.1.2.2.1, m38.1.trans h.1.2.2.2⟩, fun f hf j hj => ?_, fun f hf => (m0.2.1 f).trans (h.2.2.1 f hf), fun j hj => (m38.2.2.2 j).trans (h.2.2.2.1 j hj), ls_mf_rf n M1⟩
  · have mf := hm (ls_ad n f) (ha f (Or.inl hf)).1 (ha f (Or.inl hf)).2
    exact ⟨(m0.2.2.1 f).trans (h.1.2.1 f hf).1, mf.1.trans (h.1.2.1 f hf).2⟩
  · have mf := hm (ls_ad n f) (ha f (Or.inl hf)).1 (ha f (Or.inl hf)).2
    exact (mf.2.1 j).trans (h.2.1 f hf j hj)
/-- the class is what it was after a call of the model -/
theorem lc_mv {n : Nat} {σ : ls_S} {B M M1 : mm_M} (h : lc n σ B M) (hm : ls_mf n M M1) : lc n σ M1 M1 := by
  obtain ⟨K1, I1, R1, L1, z1⟩ := M1
  obtain ⟨K, I, R, L, z⟩ := M
  obtain ⟨rfl, rfl, rfl, hf⟩ := hm
  have hI : ∀ a, (a < n + 31 ∨ n + 63 ≤ a) → ∀ k, mm_I (K1, I1, R1, L1, z1) a k = mm_I (K1, I, R1, L, z1) a k := fun a ha => (hf a ha).1
  have hL : ∀ a, (a < n + 31 ∨ n + 63 ≤ a) → ∀ k, mm_L (K1, I1, R1, L1, z1) a k = mm_L (K1, I, R1, L, z1) a k := fun a ha => (hf a ha).2
  have hlo : ∀ p, p < 5 → lc_lo p ≤ 28 := fun p hp => by have := lc_lov hp; omega
  obtain ⟨hK, ⟨i1, i2, i3, i4, i5, i6, i7, i8, i9, ia, ib, ic⟩, -⟩ := h
  have hK1 : lc_K n σ (K1, I1, R1, L1, z1) := hK
  refine ⟨hK1, ⟨?_, fun a ha => (hI _ (by omega) _).trans (i2 a ha), ⟨(hI _ (by omega) _).trans i3.1, fun i hi => (hI _ (by omega) _).trans (i3.2 i hi)⟩, ⟨fun p hp => (hI _ (by have := hlo p hp; omega) _).trans (i4.1 p hp), (hI _ (by omega) _).trans i4.2.1, (hI _ (by omega) _).trans i4.2.2⟩, fun p hp => ⟨(hI _ (by have := lc_lov (show p < 5 by omega); omega) _).trans (i5 p hp).1, (hI _ (by have := lc_lov (show p < 5 by omega); omega) _).trans (i5 p hp).2⟩, fun p hp i hi => (hI _ (by have := lc_lov (show p < 5 by omega); omega) _).trans (i6 p hp i hi), fun p hp c hc s hs k hk => ?_, fun c hc => ?_, fun i hi => ?_, ⟨ia.1, (hI _ (by omega) _).trans ia.2.1, fun q => ⟨fun d hd => (hI _ (by omega) _).trans ((ia.2.2 q).1 d hd), fun d hd => (hI _ (by omega) _).trans ((ia.2.2 q).2 d hd)⟩⟩, ⟨(hI _ (by omega) _).trans ib.1, (hI _ (by omega) _).trans ib.2.1, (hI _ (by omega) _).trans ib.2.2.1, (hI _ (by omega) _).trans ib.2.2.2.1, (hI _ (by omega) _).trans ib.2.2.2.2⟩, fun l hl => (hL _ (by omega) _).trans (ic l hl)⟩, lc_mf_rf n _⟩
  · exact ⟨(hI _ (by omega) _).trans i1.1, (hI _ (by omega) _).trans i1.2.1, (hI _ (by omega) _).trans i1.2.2⟩
  · have := ((hK.2.2.2.1 p hp c hc).2.2.2.2.2 s hs).2.2
    exact (hI _ (Or.inr this) _).trans (i7 p hp c hc s hs k hk)
  · have h1 := (hK.2.2.2.2.2.1 c hc).2.1
    have h2 := (hK.2.2.2.2.2.1 c hc).2.2.2.2
    exact ⟨(hI _ (Or.inr h1) _).trans (i8 c hc).1, fun k hk => (hI _ (Or.inr h2) _).trans ((i8 c hc).2 k hk)⟩
  · have h1 := (hK.2.2.2.2.2.2.2 i hi).2.1
    have h2 := (hK.2.2.2.2.2.2.2 i hi).2.2.2.2.1
    obtain ⟨⟨a0, a1, a2, a3, a4, a5⟩, b⟩ := i9 i hi
    exact ⟨⟨(hI _ (Or.inr h1) _).trans a0, (hI _ (Or.inr h1) _).trans a1, (hI _ (Or.inr h1) _).trans a2, (hI _ (Or.inr h1) _).trans a3, (hI _ (Or.inr h1) _).trans a4, (hI _ (Or.inr h1) _).trans a5⟩, fun k hk => (hI _ (Or.inr h2) _).trans (b k hk)⟩
-- what holds of the state after k calls
/-- a side that there is, by its place -/
abbrev ls_pl (σ : ls_S) (q : Nat) : Prop := q / 4 < σ 3 0 ∧ q % 4 < σ 0 (q / 4)
def ls_O4 (σ : ls_S) : Prop := ∀ p, p < 4 → σ 10 p ≤ σ 3 0 ∧ (∀ i, i < σ 10 p → ls_pl σ (σ 9 (480 * p + i))) ∧ ∀ i, i < σ 10 p → ∀ j, j < i → σ 9 (480 * p + i) / 4 ≠ σ 9 (480 * p + j) / 4
def ls_was (σ : ls_S) (i : Nat) : ls_V := (σ 23 i, σ 24 i, σ 25 i, σ 26 i, σ 27 i)
def ls_O5 (σ : ls_S) (k : Nat) : Prop := σ 28 0 ≤ k ∧ ∀ i, i < σ 28 0 → σ 18 i < 1920 ∧ ls_pl σ (σ 18 i % 480) ∧ σ 19 i ≤ σ 8 (σ 18 i / 480) ∧ σ 20 i ≤ 3 ∧ σ 21 i ≤ 2 ∧ σ 22 i ≤ 100000 ∧ ls_ok (ls_was σ i) (σ 8 (σ 18 i / 480)) ∧ (ls_was σ i).2.2.2.2 ≤ k ∧ ∀ j, j < i → σ 18 j / 480 = σ 18 i / 480 → σ 19 j ≤ σ 19 i
def ls_O6 (σ : ls_S) : Prop := σ 39 0 ≤ 8 ∧ σ 43 0 ≤ 1 ∧ (σ 43 0 = 0 → 2 ≤ σ 39 0 ∧ σ 42 0 ≤ 5) ∧ σ 42 0 ≤ 6 ∧ (0 < σ 39 0 → 1 ≤ σ 40 0 ∧ σ 40 0 ≤ 499 ∧ 1 ≤ σ 41 0 ∧ σ 41 0 ≤ 499) ∧ ∀ l, l < σ 39 0 → 1 ≤ σ 38 l ∧ σ 38 l ≤ 999 ^ σ 42 0
def ls_O7 (σ : ls_S) : Prop := (∀ q, q < 1920 → σ 12 q ≤ 1) ∧ ∀ q, q < 1920 → σ 11 q ≤ 2
def ls_O8 (σ : ls_S) (k : Nat) : Prop := ∀ p, p < 4 → ∀ q, q < 480 → (ls_at σ (480 * p + q)).2.2.2.2 ≤ k ∧ (¬ ls_pl σ q → ls_at σ (480 * p + q) = (0, 2500, 0, 0, 0) ∧ σ 11 (480 * p + q) = 0 ∧ σ 12 (480 * p + q) = 0)
def ls_G (k : Nat) (σ : ls_S) : Prop := ls_O1 σ ∧ ls_O2 σ ∧ ls_O3 σ ∧ ls_O4 σ ∧ ls_O5 σ k ∧ ls_O6 σ ∧ ls_O7 σ ∧ ls_O8 σ k
def ls_R (n k : Nat) (M : mm_M) : Prop := ∃ σ, ls_M n σ M M ∧ lc n σ M M ∧ ls_G k σ
theorem ls_G_up {k : Nat} {σ : ls_S} (h : ls_G k σ) : ls_G (k + 1) σ := by
  obtain ⟨h1, h2, h3, h4, h5, h6, h7, h8⟩ := h
  refine ⟨h1, h2, h3, h4, ⟨by have := h5.1; omega, fun i hi => ?_⟩, h6, h7, fun p hp q hq => ⟨by have := (h8 p hp q hq).1; omega, (h8 p hp q hq).2⟩⟩
  obtain ⟨a1, a2, a3, a4, a5, a6, a7, a8, a9⟩ := h5.2 i hi
  exact ⟨a1, a2, a3, a4, a5, a6, a7, by omega, a9⟩
/-- the same but for scratch and for the class's shadow -/
def ls_w (σ τ : ls_S) : Prop := ∀ f j, ls_nx f → (f < 11 ∨ 17 < f ∨ j < 1920) → τ f j = σ f j
theorem ls_w_v {σ τ : ls_S} (h : ls_v σ τ) : ls_w σ τ := fun f j hf _ => congrFun (h f hf) j
theorem ls_w_tr {σ τ υ : ls_S} (h : ls_w σ τ) (h2 : ls_w τ υ) : ls_w σ υ := fun f j a b => (h2 f j a b).trans (h f j a b)
theorem ls_w_f {σ τ : ls_S} (h : ls_w σ τ) {f : Nat} (hf : f < 29 ∨ 33 < f) (h2 : f ≠ 45) (h3 : f < 11 ∨ 17 < f) : τ f = σ f := funext fun j => h f j (ls_nx_of hf h2) (by omega)
theorem ls_w_at {σ τ : ls_S} (h : ls_w σ τ) {q : Nat} (hq : q < 1920) : ls_at τ q = ls_at σ q := by
  unfold ls_at
  rw [h 13 q (ls_nx_of (by omega) (by omega)) (by omega), h 14 q (ls_nx_of (by omega) (by omega)) (by omega), h 15 q (ls_nx_of (by omega) (by omega)) (by omega), h 16 q (ls_nx_of (by omega) (by omega)) (by omega), h 17 q (ls_nx_of (by omega) (by omega)) (by omega)]
theorem ls_G_w {k : Nat} {σ τ : ls_S} (h : ls_G k σ) (hw : ls_w σ τ) : ls_G k τ := by
  have e : ∀ f, (f < 11 ∨ (17 < f ∧ f < 29) ∨ 33 < f) → f ≠ 45 → τ f = σ f := fun f a b => ls_w_f hw (by omega) b (by omega)
  obtain ⟨h1, h2, h3, h4, h5, h6, h7, h8⟩ := h
  have ep : ∀ q, ls_pl τ q ↔ ls_pl σ q := fun q => by unfold ls_pl; rw [e 3 (by omega) (by omega), e 0 (by omega) (by omega)]
  refine ⟨?_, ?_, fun p hp q hq => ?_, fun p hp => ?_, ?_, ?_, ⟨fun q hq => ?_, fun q hq => ?_⟩, fun p hp q hq => ?_⟩
  · unfold ls_O1
    rw [e 0 (by omega) (by omega), e 1 (by omega) (by omega), e 2 (by omega) (by omega), e 3 (by omega) (by omega)]
    exact h1
  · unfold ls_O2
    rw [e 4 (by omega) (by omega), e 5 (by omega) (by omega), e 6 (by omega) (by omega), e 7 (by omega) (by omega), e 8 (by omega) (by omega)]
    exact h2
  · rw [ls_w_at hw (by omega), e 8 (by omega) (by omega)]
    exact h3 p hp q hq
  · rw [e 10 (by omega) (by omega), e 9 (by omega) (by omega), e 3 (by omega) (by omega)]
    exact ⟨(h4 p hp).1, fun i hi => (ep _).mpr ((h4 p hp).2.1 i hi), (h4 p hp).2.2⟩
  · have ew : ∀ i, ls_was τ i = ls_was σ i := fun i => by
      unfold ls_was
      rw [e 23 (by omega) (by omega), e 24 (by omega) (by omega), e 25 (by omega) (by omega), e 26 (by omega) (by omega), e 27 (by omega) (by omega)]
    unfold ls_O5
    rw [e 28 (by omega) (by omega), e 18 (by omega) (by omega), e 19 (by omega) (by omega), e 20 (by omega) (by omega), e 21 (by omega) (by omega), e 22 (by omega) (by omega), e 8 (by omega) (by omega)]
    refine ⟨h5.1, fun i hi => ?_⟩
    rw [ew i]
    have := h5.2 i hi
    exact ⟨this.1, (ep _).mpr this.2.1, this.2.2⟩
  · unfold ls_O6
    rw [e 38 (by omega) (by omega), e 39 (by omega) (by omega), e 40 (by omega) (by omega), e 41 (by omega) (by omega), e 42 (by omega) (by omega), e 43 (by omega) (by omega)]
    exact h6
  · rw [hw 12 q (ls_nx_of (by omega) (by omega)) (by omega)]
    exact h7.1 q hq
  · rw [hw 11 q (ls_nx_of (by omega) (by omega)) (by omega)]
    exact h7.2 q hq
  · rw [ls_w_at hw (by omega), hw 11 (480 * p + q) (ls_nx_of (by omega) (by omega)) (by omega), hw 12 (480 * p + q) (ls_nx_of (by omega) (by omega)) (by omega)]
    exact ⟨(h8 p hp q hq).1, fun z => (h8 p hp q hq).2 (fun y => z ((ep q).mpr y))⟩
theorem ls_G_v {k : Nat} {σ τ : ls_S} (h : ls_G k σ) (hv : ls_v σ τ) : ls_G k τ := ls_G_w h (ls_w_v hv)
/-- the model does not see the shadow -/
def ls_s (σ τ : ls_S) : Prop := ∀ f j, (f < 11 ∨ 17 < f ∨ j < 1920) → τ f j = σ f j
theorem ls_s_rf (σ : ls_S) : ls_s σ σ := fun _ _ _ => rfl
theorem ls_s_tr {σ τ υ : ls_S} (h : ls_s σ τ) (h2 : ls_s τ υ) : ls_s σ υ := fun f j a => (h2 f j a).trans (h f j a)
theorem ls_w_s {σ τ : ls_S} (h : ls_s σ τ) : ls_w σ τ := fun f j _ b => h f j b
theorem ls_s_u {σ τ : ls_S} (h : ls_s σ τ) {f j : Nat} (v : Nat) (hf : 11 ≤ f ∧ f ≤ 17 ∧ 1920 ≤ j) : ls_s σ (mm_u τ f j v) := fun g i hg => by
  rw [mm_u, if_neg (by omega)]
  exact h g i hg
theorem ls_M_s {n : Nat} {σ τ : ls_S} {B M : mm_M} (h : ls_M n σ B M) (hs : ls_s σ τ) : ls_M n τ B M := by
  have hl : ∀ f, f ∈ ls_aF → ls_al f ≤ 1920 ∨ 17 < f := by decide
  have hf : ∀ f, f ∈ ls_sF → f < 11 ∨ 17 < f := by decide
  refine ⟨h.1, fun f hf j hj => ?_, fun f hff => ?_, fun j hj => ?_, h.2.2.2.2⟩
  · rw [hs f j (by have := hl f hf; omega)]
    exact h.2.1 f hf j hj
  · rw [hs f 0 (by have := hf f hff; omega)]
    exact h.2.2.1 f hff
  · rw [hs 38 j (by omega)]
    exact h.2.2.2.1 j hj
/-- a call: what the class does and what the model does, put together -/
theorem ls_call {n k : Nat} {M M1 M2 : mm_M} {τ : ls_S} (hM : ls_M n τ M1 M2) (hc : lc n τ M M1) (hG : ls_G k τ) : ls_R n k M2 := ⟨τ, ls_M_rf hM, lc_mv hc hM.2.2.2.2, hG⟩
