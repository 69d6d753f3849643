theorem mm_u_f {σ τ : ls_S} {f : Nat} (h : σ f = τ f) (g j v : Nat) : mm_u σ g j v f = mm_u τ g j v f := by
  funext i
  simp only [mm_u, h]
theorem ls_la_c {σ τ : ls_S} {f : Nat} (h : σ f = τ f) (L : Nat) (w : Nat → Nat) : ls_la σ L w f = ls_la τ L w f := by
  funext j
  simp only [ls_la, ls_lx, mm_u, h]
theorem ls_pt_c {σ τ : ls_S} {f : Nat} (h : σ f = τ f) (q : Nat) (v : ls_V) : ls_pt σ q v f = ls_pt τ q v f := mm_u_f (mm_u_f (mm_u_f (mm_u_f (mm_u_f h _ _ _) _ _ _) _ _ _) _ _ _) _ _ _
theorem ls_pt_f (σ : ls_S) (q : Nat) (v : ls_V) {f : Nat} (h : f < 13 ∨ 17 < f) : ls_pt σ q v f = σ f := by
  funext j
  unfold ls_pt
  rw [mm_u, if_neg (by omega), mm_u, if_neg (by omega), mm_u, if_neg (by omega), mm_u, if_neg (by omega), mm_u, if_neg (by omega)]
theorem ls_aB_5 (r b a on : Nat) (v : ls_V) : (ls_aB r b a on v).2.2.2.2 = v.2.2.2.2 + if a = 0 then 1 else 0 := by
  unfold ls_aB
  split
  · rfl
  · split
    · rfl
    · split <;> rfl
section
variable {n k : Nat} {σ τ υ : ls_S} {B M M1 : mm_M}
theorem ls_v_pt (h : ls_v σ τ) (q : Nat) (v : ls_V) : ls_v (ls_pt σ q v) (ls_pt τ q v) := fun f hf => ls_pt_c (h f hf) q v
theorem lc_vis (h : lc n σ B M) (e : ∀ f, f ≠ 8 → f ≠ 9 → f ≠ 10 → (f < 29 ∨ (34 < f ∧ f < 44)) → τ f = σ f) (e8 : ∀ p, p < 4 → τ 8 p = σ 8 p) (e10 : ∀ p, p < 4 → τ 10 p = σ 10 p) (e9 : ∀ p, p < 4 → ∀ i, i < σ 10 p → τ 9 (480 * p + i) = σ 9 (480 * p + i)) : lc n τ B M := by
  have e' : ∀ {f}, (f < 8 ∨ (10 < f ∧ f < 29) ∨ (34 < f ∧ f < 44)) → τ f = σ f := fun {f} a => e f (by omega) (by omega) (by omega) (by omega)
  obtain ⟨hK, ⟨i1, i2, i3, i4, i5, i6, i7, i8, i9, ia, ib, ic⟩, hm⟩ := h
  refine ⟨lc_Kσ hK (by rw [e' (f := 3) (by omega)]) (e' (by omega)) (by rw [e' (f := 28) (by omega)]), ⟨?_, ?_, i3, lc_s4 i4 (by rw [e' (f := 3) (by omega)]) (by rw [e' (f := 28) (by omega)]), ?_, ?_, lc_s7 i7 (by rw [e' (f := 3) (by omega)]) (e' (by omega)) (fun f a b => e' (by omega)), lc_s8 i8 (by rw [e' (f := 3) (by omega)]) (e' (by omega)) (e' (by omega)), lc_s9 i9 (by rw [e' (f := 28) (by omega)]) (fun f a b => e' (by omega)), ?_, ?_, ?_⟩, hm⟩
  · unfold lc_I1; rw [e' (f := 4) (by omega), e' (f := 6) (by omega), e' (f := 7) (by omega)]; exact i1
  · unfold lc_I2; rw [e' (f := 5) (by omega)]; exact i2
  · intro p hp; rw [e8 p hp, e10 p hp]; exact i5 p hp
  · intro p hp i hi; rw [e10 p hp] at hi; rw [e9 p hp i hi]; exact i6 p hp i hi
  · unfold lc_Ia; rw [e' (f := 37) (by omega), e' (f := 36) (by omega), e' (f := 35) (by omega)]; exact ia
  · unfold lc_Ib; rw [e' (f := 39) (by omega), e' (f := 40) (by omega), e' (f := 41) (by omega), e' (f := 42) (by omega), e' (f := 43) (by omega)]; exact ib
  · unfold lc_Ic; rw [e' (f := 38) (by omega), e' (f := 39) (by omega)]; exact ic
/-- Y is Z in what counts, but for the row of p, which is r of length m; the other rows are σ's -/
def ls_D (σ Z Y : ls_S) (p m : Nat) (r : Nat → Nat) : Prop := (∀ f, f ≠ 8 → f ≠ 9 → f ≠ 10 → (f < 29 ∨ (34 < f ∧ f < 44)) → Y f = Z f) ∧ (∀ q, q < 4 → Y 8 q = σ 8 q) ∧ Y 10 p = m ∧ (∀ i, i < m → Y 9 (480 * p + i) = r i) ∧ ∀ q, q < 4 → q ≠ p → Y 10 q = σ 10 q ∧ ∀ i, i < 480 → Y 9 (480 * q + i) = σ 9 (480 * q + i)
theorem lc_D {Z S1 S2 : ls_S} {p m : Nat} {r : Nat → Nat} (h : lc n S1 B M) (d1 : ls_D σ Z S1 p m r) (d2 : ls_D σ Z S2 p m r) (h480 : ∀ q, q < 4 → σ 10 q ≤ 480) : lc n S2 B M := by
  refine lc_vis h (fun f a b c d => (d2.1 f a b c d).trans (d1.1 f a b c d).symm) (fun q hq => (d2.2.1 q hq).trans (d1.2.1 q hq).symm) (fun q hq => ?_) (fun q hq i hi => ?_)
  · by_cases e : q = p
    · rw [e]; exact d2.2.2.1.trans d1.2.2.1.symm
    · exact (d2.2.2.2.2 q hq e).1.trans (d1.2.2.2.2 q hq e).1.symm
  · by_cases e : q = p
    · rw [e] at hi ⊢
      rw [d1.2.2.1] at hi
      exact (d2.2.2.2.1 i hi).trans (d1.2.2.2.1 i hi).symm
    · rw [(d1.2.2.2.2 q hq e).1] at hi
      have := h480 q hq
      exact ((d2.2.2.2.2 q hq e).2 i (by omega)).trans ((d1.2.2.2.2 q hq e).2 i (by omega)).symm
/-- the state behind an answer, rows aside -/
def ls_aw (σ : ls_S) (p Q a : Nat) : ls_S := ls_pt (ls_la σ (σ 28 0) (ls_wv Q (σ 8 p) a (σ 4 0) (σ 5 a) (ls_at σ Q))) Q (ls_aB (σ 4 0) (σ 5 a) a (σ 8 p) (ls_at σ Q))
theorem ls_aw_f (σ : ls_S) (p Q a : Nat) {f : Nat} (h : f < 13 ∨ 28 < f) : ls_aw σ p Q a f = σ f := (ls_pt_f _ _ _ (by omega)).trans (ls_la_f _ _ _ (by omega))
theorem ls_at_la (σ : ls_S) (L : Nat) (w : Nat → Nat) (q : Nat) : ls_at (ls_la σ L w) q = ls_at σ q := by
  unfold ls_at
  rw [ls_la_f σ L w (f := 13) (by omega), ls_la_f σ L w (f := 14) (by omega), ls_la_f σ L w (f := 15) (by omega), ls_la_f σ L w (f := 16) (by omega), ls_la_f σ L w (f := 17) (by omega)]
theorem ls_G_aw (h : ls_G k σ) (hk : k < 512) {p c s a : Nat} (hp : p < 4) (hc : c < σ 3 0) (hs : s < σ 0 c) (ha : a ≤ 3) : ls_G (k + 1) (ls_aw σ p (480 * p + 4 * c + s) a) := by
  obtain ⟨ok1, ok2, ok3⟩ := ls_G_ok h hp hc hs
  obtain ⟨h1, h2, h3, h4, h5, h6, h7, h8⟩ := h
  have h4c := (h1.2.1 c hc).2
  have h120 := h1.1
  have e := fun {f} (hf : f < 13 ∨ 28 < f) => ls_aw_f σ p (480 * p + 4 * c + s) a hf
  have eat : ∀ q, ls_at (ls_aw σ p (480 * p + 4 * c + s) a) q = if q = 480 * p + 4 * c + s then ls_aB (σ 4 0) (σ 5 a) a (σ 8 p) (ls_at σ (480 * p + 4 * c + s)) else ls_at σ q := fun q => by
    unfold ls_aw
    rw [ls_at_pt, ls_at_la]
  have el := fun {f} (hf : 18 ≤ f ∧ f < 28) => ls_la_n σ (σ 28 0) (ls_wv (480 * p + 4 * c + s) (σ 8 p) a (σ 4 0) (σ 5 a) (ls_at σ (480 * p + 4 * c + s))) hf
  have eo := fun {f j} (hf : 18 ≤ f ∧ f < 28) (hj : j ≠ σ 28 0) => ls_la_o σ (σ 28 0) (ls_wv (480 * p + 4 * c + s) (σ 8 p) a (σ 4 0) (σ 5 a) (ls_at σ (480 * p + 4 * c + s))) hf hj
  have ep := fun {f} (hf : 17 < f) => ls_pt_f (ls_la σ (σ 28 0) (ls_wv (480 * p + 4 * c + s) (σ 8 p) a (σ 4 0) (σ 5 a) (ls_at σ (480 * p + 4 * c + s)))) (480 * p + 4 * c + s) (ls_aB (σ 4 0) (σ 5 a) a (σ 8 p) (ls_at σ (480 * p + 4 * c + s))) (Or.inr hf)
  have nw : ∀ f, 18 ≤ f ∧ f < 28 → ls_aw σ p (480 * p + 4 * c + s) a f (σ 28 0) = ls_wv (480 * p + 4 * c + s) (σ 8 p) a (σ 4 0) (σ 5 a) (ls_at σ (480 * p + 4 * c + s)) f := fun f hf => by
    unfold ls_aw; rw [ep (by omega)]; exact el hf
  have od : ∀ f j, 18 ≤ f ∧ f < 28 → j ≠ σ 28 0 → ls_aw σ p (480 * p + 4 * c + s) a f j = σ f j := fun f j hf hj => by
    unfold ls_aw; rw [ep (by omega)]; exact eo hf hj
  have e28 : ls_aw σ p (480 * p + 4 * c + s) a 28 0 = σ 28 0 + 1 := by
    unfold ls_aw; rw [ep (by omega)]; exact ls_la_28 _ _ _
  have epl : ∀ q, ls_pl (ls_aw σ p (480 * p + 4 * c + s) a) q ↔ ls_pl σ q := fun q => by unfold ls_pl; rw [e (f := 3) (by omega), e (f := 0) (by omega)]
  have hag : (ls_at σ (480 * p + 4 * c + s)).2.2.2.2 ≤ k := by
    have := (h8 p hp (4 * c + s) (by omega)).1
    rwa [← Nat.add_assoc] at this
  have hok := ls_aB_ok (r := σ 4 0) (b := σ 5 a) (a := a) ok1 (by omega)
  have h5a := ls_aB_5 (σ 4 0) (σ 5 a) a (σ 8 p) (ls_at σ (480 * p + 4 * c + s))
  have pls : ls_pl σ (4 * c + s) := ⟨by omega, by rw [show (4 * c + s) / 4 = c by omega]; omega⟩
  generalize hR : ls_aw σ p (480 * p + 4 * c + s) a = R at *
  refine ⟨?_, ?_, fun p2 hp2 q hq => ?_, fun p2 hp2 => ?_, ⟨?_, fun i hi => ?_⟩, ?_, ?_, fun p2 hp2 q hq => ⟨?_, fun hn => ?_⟩⟩
  · unfold ls_O1
    rw [e (f := 0) (by omega), e (f := 1) (by omega), e (f := 2) (by omega), e (f := 3) (by omega)]
    exact h1
  · unfold ls_O2
    rw [e (f := 4) (by omega), e (f := 5) (by omega), e (f := 6) (by omega), e (f := 7) (by omega), e (f := 8) (by omega)]
    exact h2
  · rw [eat, e (f := 8) (by omega)]
    by_cases e2 : 480 * p2 + q = 480 * p + 4 * c + s
    · rw [if_pos e2]
      have : p2 = p := by omega
      rw [this]
      exact hok.1
    · rw [if_neg e2]
      exact h3 p2 hp2 q hq
  · rw [e (f := 10) (by omega), e (f := 9) (by omega), e (f := 3) (by omega)]
    exact ⟨(h4 p2 hp2).1, fun i hi => (epl _).mpr ((h4 p2 hp2).2.1 i hi), (h4 p2 hp2).2.2⟩
  · rw [e28]; have := h5.1; omega
  · rw [e28] at hi
    rw [e (f := 8) (by omega)]
    by_cases hL : i = σ 28 0
    · subst hL
      have ew : ls_was R (σ 28 0) = ls_at σ (480 * p + 4 * c + s) := by
        unfold ls_was
        rw [nw 23 (by omega), nw 24 (by omega), nw 25 (by omega), nw 26 (by omega), nw 27 (by omega)]
        rfl
      have w18 : R 18 (σ 28 0) = 480 * p + 4 * c + s := nw 18 (by omega)
      have w19 : R 19 (σ 28 0) = σ 8 p := nw 19 (by omega)
      have w20 : R 20 (σ 28 0) = a := nw 20 (by omega)
      have w21 : R 21 (σ 28 0) = σ 4 0 := nw 21 (by omega)
      have w22 : R 22 (σ 28 0) = σ 5 a := nw 22 (by omega)
      have ed : (480 * p + 4 * c + s) / 480 = p := by omega
      have em : (480 * p + 4 * c + s) % 480 = 4 * c + s := by omega
      rw [ew, w18, w19, w20, w21, w22, ed, em]
      refine ⟨ok3, (epl _).mpr pls, Nat.le_refl _, ha, h2.1, h2.2.1 a (by omega), ok1, by omega, fun j hj hj2 => ?_⟩
      rw [od 18 j (by omega) (by omega)] at hj2
      rw [od 19 j (by omega) (by omega)]
      have := (h5.2 j hj).2.2.1
      rwa [hj2] at this
    · have g := h5.2 i (by omega)
      have ew : ls_was R i = ls_was σ i := by
        unfold ls_was
        rw [od 23 i (by omega) hL, od 24 i (by omega) hL, od 25 i (by omega) hL, od 26 i (by omega) hL, od 27 i (by omega) hL]
      rw [ew, od 18 i (by omega) hL, od 19 i (by omega) hL, od 20 i (by omega) hL, od 21 i (by omega) hL, od 22 i (by omega) hL]
      obtain ⟨g1, g2, g3, g4, g5, g6, g7, g8, g9⟩ := g
      refine ⟨g1, (epl _).mpr g2, g3, g4, g5, g6, g7, by omega, fun j hj hj2 => ?_⟩
      rw [od 18 j (by omega) (by omega)] at hj2
      rw [od 19 j (by omega) (by omega)]
      exact g9 j hj hj2
  · unfold ls_O6
    rw [e (f := 38) (by omega), e (f := 39) (by omega), e (f := 40) (by omega), e (f := 41) (by omega), e (f := 42) (by omega), e (f := 43) (by omega)]
    exact h6
  · unfold ls_O7
    rw [e (f := 12) (by omega), e (f := 11) (by omega)]
    exact h7
  · rw [eat]
    by_cases e2 : 480 * p2 + q = 480 * p + 4 * c + s
    · rw [if_pos e2, h5a]
      split <;> omega
    · rw [if_neg e2]
      have := (h8 p2 hp2 q hq).1
      omega
  · rw [eat, e (f := 11) (by omega), e (f := 12) (by omega)]
    have hn2 : ¬ ls_pl σ q := fun z => hn ((epl q).mpr z)
    rw [if_neg (fun e2 => hn2 (by
      have : q = 4 * c + s := by omega
      rw [this]; exact pls))]
    exact (h8 p2 hp2 q hq).2 hn2
theorem ls_G_11 (h : ls_G k σ) {p c s : Nat} (hp : p < 4) (hc : c < σ 3 0) (hs : s < σ 0 c) {v : Nat} (hv : v ≤ 2) : ls_G k (mm_u σ 11 (480 * p + 4 * c + s) v) := by
  obtain ⟨g1, g2, g3, g4, g5, g6, g7, g8⟩ := h
  have h4 := (g1.2.1 c hc).2
  have h120 := g1.1
  refine ⟨g1, g2, g3, g4, g5, g6, ⟨g7.1, fun q hq => ?_⟩, fun q hq i hi => ⟨(g8 q hq i hi).1, fun z => ⟨((g8 q hq i hi).2 z).1, ?_, ((g8 q hq i hi).2 z).2.2⟩⟩⟩
  · rw [mm_u]
    split
    · exact hv
    · exact g7.2 q hq
  · rw [mm_u, if_neg (fun e => z ?_)]
    · exact ((g8 q hq i hi).2 z).2.1
    · show i / 4 < σ 3 0 ∧ i % 4 < σ 0 (i / 4)
      have e1 : i / 4 = c := by omega
      rw [e1]
      exact ⟨hc, by omega⟩
/-- the model's way as far as the row's first gone -/
theorem ls_ansM (h : ls_M n σ B M) (hG : ls_G k σ) (hk : k < 512) {p c s a : Nat} (hp : p < 4) (hc : c < σ 3 0) (hs : s < σ 0 c) (ha : a ≤ 3) (eq : σ 9 (480 * p) = 4 * c + s) (hm : 0 < σ 10 p) : ∃ M1 X Y, (∀ {r}, (if nI a = 0 then f_X10_answer_259 M1 (some (n + 31)) (nI p) (nI (4 * c + s)) (nI (480 * p + 4 * c + s)) else f_X10_answer_316 M1 (some (n + 31)) (nI p)) = r → f_X10_answer_43 M (some (n + 31)) (nI p) (nI a) = r) ∧ ls_M n Y B M1 ∧ ls_v (ls_aw σ p (480 * p + 4 * c + s) a) X ∧ ls_sc X = ls_aB (σ 4 0) (σ 5 a) a (σ 8 p) (ls_at σ (480 * p + 4 * c + s)) ∧ ls_rs X Y p ∧ Y 8 p = X 8 p ∧ Y 10 p = X 10 p - 1 ∧ ∀ i, i < X 10 p - 1 → Y 9 (480 * p + i) = X 9 (480 * p + (i + 1)) := by
  obtain ⟨ok1, ok2, ok3⟩ := ls_G_ok hG hp hc hs
  have h28 := hG.2.2.2.2.1.1
  have t5 := hG.2.1.2.2.2.2 p hp
  have hL : σ 28 0 < 3000 := by omega
  have eix : nI p * 480 + nI (4 * c + s) = nI (480 * p + 4 * c + s) := by rw [ls_ix2, Nat.add_assoc]
  have hw : ∃ w, w = ls_wv (480 * p + 4 * c + s) (σ 8 p) a (σ 4 0) (σ 5 a) (ls_at σ (480 * p + 4 * c + s)) := ⟨_, rfl⟩
  obtain ⟨w, hw⟩ := hw
  have w18 : w 18 = 480 * p + 4 * c + s := by rw [hw]; rfl
  have w19 : w 19 = σ 8 p := by rw [hw]; rfl
  have w20 : w 20 = a := by rw [hw]; rfl
  have w21 : w 21 = σ 4 0 := by rw [hw]; rfl
  have w22 : w 22 = σ 5 a := by rw [hw]; rfl
  have w23 : w 23 = σ 13 (480 * p + 4 * c + s) := by rw [hw]; rfl
  have w24 : w 24 = σ 14 (480 * p + 4 * c + s) := by rw [hw]; rfl
  have w25 : w 25 = σ 15 (480 * p + 4 * c + s) := by rw [hw]; rfl
  have w26 : w 26 = σ 16 (480 * p + 4 * c + s) := by rw [hw]; rfl
  have w27 : w 27 = σ 17 (480 * p + 4 * c + s) := by rw [hw]; rfl
  have h18 : ls_M n (ls_lx σ (σ 28 0) w 18) B M := by rw [ls_lx_0]; exact h
  obtain ⟨M19, t18, h19⟩ := ls_tI h18 18 (σ 28 0) (w 18) (by decide) rfl hL
  rw [ls_lx_s σ _ w (by omega) rfl] at h19
  rw [w18] at t18
  have r28_18 : mm_fI M (some (n + 31)) 11 28 = some (nI (σ 28 0)) := by have q := ls_fI h18 28 (by decide); rw [ls_lx_f σ _ w 18 (by omega)] at q; exact q
  obtain ⟨M20, t19, h20⟩ := ls_tI h19 19 (σ 28 0) (w 19) (by decide) rfl hL
  rw [ls_lx_s σ _ w (by omega) rfl] at h20
  rw [w19] at t19
  have r28_19 : mm_fI M19 (some (n + 31)) 11 28 = some (nI (σ 28 0)) := by have q := ls_fI h19 28 (by decide); rw [ls_lx_f σ _ w 19 (by omega)] at q; exact q
  have v19 : mm_aI M19 (some (ls_ad n 8)) 12 (nI (p)) = some (ls_en 8 (σ 8 (p))) := by have q := ls_aI h19 8 (p) (by decide) hp; rw [ls_lx_f σ _ w 19 (by omega)] at q; exact q
  obtain ⟨M21, t20, h21⟩ := ls_tI h20 20 (σ 28 0) (w 20) (by decide) rfl hL
  rw [ls_lx_s σ _ w (by omega) rfl] at h21
  rw [w20] at t20
  have r28_20 : mm_fI M20 (some (n + 31)) 11 28 = some (nI (σ 28 0)) := by have q := ls_fI h20 28 (by decide); rw [ls_lx_f σ _ w 20 (by omega)] at q; exact q
  obtain ⟨M22, t21, h22⟩ := ls_tI h21 21 (σ 28 0) (w 21) (by decide) rfl hL
  rw [ls_lx_s σ _ w (by omega) rfl] at h22
  rw [w21] at t21
  have r28_21 : mm_fI M21 (some (n + 31)) 11 28 = some (nI (σ 28 0)) := by have q := ls_fI h21 28 (by decide); rw [ls_lx_f σ _ w 21 (by omega)] at q; exact q
  have v21 : mm_fI M21 (some (n + 31)) 11 4 = some (nI (σ 4 0)) := by have q := ls_fI h21 4 (by decide); rw [ls_lx_f σ _ w 21 (by omega)] at q; exact q
  obtain ⟨M23, t22, h23⟩ := ls_tI h22 22 (σ 28 0) (w 22) (by decide) rfl hL
  rw [ls_lx_s σ _ w (by omega) rfl] at h23
  rw [w22] at t22
  have r28_22 : mm_fI M22 (some (n + 31)) 11 28 = some (nI (σ 28 0)) := by have q := ls_fI h22 28 (by decide); rw [ls_lx_f σ _ w 22 (by omega)] at q; exact q
  have v22 : mm_aI M22 (some (ls_ad n 5)) 12 (nI (a)) = some (ls_en 5 (σ 5 (a))) := by have q := ls_aI h22 5 (a) (by decide) (show a < 4 by omega); rw [ls_lx_f σ _ w 22 (by omega)] at q; exact q
  obtain ⟨M24, t23, h24⟩ := ls_tI h23 23 (σ 28 0) (w 23) (by decide) rfl hL
  rw [ls_lx_s σ _ w (by omega) rfl] at h24
  rw [w23] at t23
  have r28_23 : mm_fI M23 (some (n + 31)) 11 28 = some (nI (σ 28 0)) := by have q := ls_fI h23 28 (by decide); rw [ls_lx_f σ _ w 23 (by omega)] at q; exact q
  have v23 : mm_aI M23 (some (ls_ad n 13)) 12 (nI (480 * p + 4 * c + s)) = some (ls_en 13 (σ 13 (480 * p + 4 * c + s))) := by have q := ls_aI h23 13 (480 * p + 4 * c + s) (by decide) ok3; rw [ls_lx_f σ _ w 23 (by omega)] at q; exact q
  obtain ⟨M25, t24, h25⟩ := ls_tI h24 24 (σ 28 0) (w 24) (by decide) rfl hL
  rw [ls_lx_s σ _ w (by omega) rfl] at h25
  rw [w24] at t24
  have r28_24 : mm_fI M24 (some (n + 31)) 11 28 = some (nI (σ 28 0)) := by have q := ls_fI h24 28 (by decide); rw [ls_lx_f σ _ w 24 (by omega)] at q; exact q
  have v24 : mm_aI M24 (some (ls_ad n 14)) 12 (nI (480 * p + 4 * c + s)) = some (ls_en 14 (σ 14 (480 * p + 4 * c + s))) := by have q := ls_aI h24 14 (480 * p + 4 * c + s) (by decide) ok3; rw [ls_lx_f σ _ w 24 (by omega)] at q; exact q
  obtain ⟨M26, t25, h26⟩ := ls_tI h25 25 (σ 28 0) (w 25) (by decide) rfl hL
  rw [ls_lx_s σ _ w (by omega) rfl] at h26
  rw [w25] at t25
  have r28_25 : mm_fI M25 (some (n + 31)) 11 28 = some (nI (σ 28 0)) := by have q := ls_fI h25 28 (by decide); rw [ls_lx_f σ _ w 25 (by omega)] at q; exact q
  have v25 : mm_aI M25 (some (ls_ad n 15)) 12 (nI (480 * p + 4 * c + s)) = some (ls_en 15 (σ 15 (480 * p + 4 * c + s))) := by have q := ls_aI h25 15 (480 * p + 4 * c + s) (by decide) ok3; rw [ls_lx_f σ _ w 25 (by omega)] at q; exact q
  obtain ⟨M27, t26, h27⟩ := ls_tI h26 26 (σ 28 0) (w 26) (by decide) rfl hL
  rw [ls_lx_s σ _ w (by omega) rfl] at h27
  rw [w26] at t26
  have r28_26 : mm_fI M26 (some (n + 31)) 11 28 = some (nI (σ 28 0)) := by have q := ls_fI h26 28 (by decide); rw [ls_lx_f σ _ w 26 (by omega)] at q; exact q
  have v26 : mm_aI M26 (some (ls_ad n 16)) 12 (nI (480 * p + 4 * c + s)) = some (ls_en 16 (σ 16 (480 * p + 4 * c + s))) := by have q := ls_aI h26 16 (480 * p + 4 * c + s) (by decide) ok3; rw [ls_lx_f σ _ w 26 (by omega)] at q; exact q
  obtain ⟨M28, t27, h28x⟩ := ls_tI h27 27 (σ 28 0) (w 27) (by decide) rfl hL
  rw [ls_lx_s σ _ w (by omega) rfl] at h28x
  rw [w27] at t27
  have r28_27 : mm_fI M27 (some (n + 31)) 11 28 = some (nI (σ 28 0)) := by have q := ls_fI h27 28 (by decide); rw [ls_lx_f σ _ w 27 (by omega)] at q; exact q
  have v27 : mm_aI M27 (some (ls_ad n 17)) 12 (nI (480 * p + 4 * c + s)) = some (ls_en 17 (σ 17 (480 * p + 4 * c + s))) := by have q := ls_aI h27 17 (480 * p + 4 * c + s) (by decide) ok3; rw [ls_lx_f σ _ w 27 (by omega)] at q; exact q
  have r28_28 : mm_fI M28 (some (n + 31)) 11 28 = some (nI (σ 28 0)) := by have q := ls_fI h28x 28 (by decide); rw [ls_lx_f σ _ w 28 (by omega)] at q; exact q
  obtain ⟨M29, t28, h29⟩ := ls_pI h28x 28 (σ 28 0 + 1) (by decide)
  have h29 : ls_M n (ls_la σ (σ 28 0) w) B M29 := h29
  obtain ⟨M30, τ1, t29, h30, v30, c30⟩ := ls_take h29 ok3
  rw [ls_at_la] at c30
  have e30 : ∀ {f}, f < 11 → τ1 f = σ f := fun {f} hf => (ls_vf v30 (by omega) (by omega)).trans (ls_la_f σ _ w (by omega))
  have r4 : mm_fI M30 (some (n + 31)) 11 4 = some (nI (σ 4 0)) := by have q := ls_fI h30 4 (by decide); rw [e30 (by omega)] at q; exact q
  have r5 : mm_aI M30 (some (ls_ad n 5)) 12 (nI a) = some (nI (σ 5 a)) := by have q := ls_aI h30 5 a (by decide) (show a < 4 by omega); rw [e30 (by omega)] at q; exact q
  have r8 : mm_aI M30 (some (ls_ad n 8)) 12 (nI p) = some (nI (σ 8 p)) := by have q := ls_aI h30 8 p (by decide) hp; rw [e30 (by omega)] at q; exact q
  obtain ⟨M31, τ2, t30, h31, v31, c31⟩ := ls_answerBy h30 c30 (r := σ 4 0) (b := σ 5 a) (a := a) (on := σ 8 p) hG.2.1.1 (hG.2.1.2.1 a (by omega)) ha ok1 (by omega)
  obtain ⟨M32, t31, h32⟩ := ls_give h31 ok3
  rw [c31] at h32
  have vX : ls_v (ls_aw σ p (480 * p + 4 * c + s) a) (ls_pt τ2 (480 * p + 4 * c + s) (ls_aB (σ 4 0) (σ 5 a) a (σ 8 p) (ls_at σ (480 * p + 4 * c + s)))) := by
    have := ls_v_pt (ls_v_tr v30 v31) (480 * p + 4 * c + s) (ls_aB (σ 4 0) (σ 5 a) a (σ 8 p) (ls_at σ (480 * p + 4 * c + s)))
    rw [hw] at this
    exact this
  have x10 : ls_pt τ2 (480 * p + 4 * c + s) (ls_aB (σ 4 0) (σ 5 a) a (σ 8 p) (ls_at σ (480 * p + 4 * c + s))) 10 = σ 10 := (ls_vf vX (by omega) (by omega)).trans (ls_aw_f σ p _ a (by omega))
  have o4 := (hG.2.2.2.1 p hp).1
  have h120 := hG.1.1
  obtain ⟨M33, Y, t32, h33, rs, y8, y10, y9⟩ := ls_dropFirst h32 hp (by rw [x10]; exact hm) (by rw [x10]; omega)
  have r9 : mm_aI M (some (ls_ad n 9)) 12 (nI p * 480) = some (nI (4 * c + s)) := by
    rw [ls_ix1, ← eq]
    exact ls_aI h 9 (480 * p) (by decide) (show 480 * p < 1920 by omega)
  refine ⟨M33, _, Y, fun {r} q => ?_, h33, vX, ?_, rs, y8, y10, y9⟩
  · exact bx (ls_fR h 9 (by decide)) (bx r9 (bx (ls_fR h18 18 (by decide)) (bx r28_18 (bx (a := M19) (by rw [eix]; exact t18) (bx (ls_fR h19 19 (by decide)) (bx r28_19 (bx (ls_fR h19 8 (by decide)) (bx v19 (bx (a := M20) t19 (bx (ls_fR h20 20 (by decide)) (bx r28_20 (bx (a := M21) t20 (bx (ls_fR h21 21 (by decide)) (bx r28_21 (bx v21 (bx (a := M22) t21 (bx (ls_fR h22 22 (by decide)) (bx r28_22 (bx (ls_fR h22 5 (by decide)) (bx v22 (bx (a := M23) t22 (bx (ls_fR h23 23 (by decide)) (bx r28_23 (bx (ls_fR h23 13 (by decide)) (bx (a := ls_en 13 (σ 13 (480 * p + 4 * c + s))) (by rw [eix]; exact v23) (bx (a := M24) t23 (bx (ls_fR h24 24 (by decide)) (bx r28_24 (bx (ls_fR h24 14 (by decide)) (bx (a := ls_en 14 (σ 14 (480 * p + 4 * c + s))) (by rw [eix]; exact v24) (bx (a := M25) t24 (bx (ls_fR h25 25 (by decide)) (bx r28_25 (bx (ls_fR h25 15 (by decide)) (bx (a := ls_en 15 (σ 15 (480 * p + 4 * c + s))) (by rw [eix]; exact v25) (bx (a := M26) t25 (bx (ls_fR h26 26 (by decide)) (bx r28_26 (bx (ls_fR h26 16 (by decide)) (bx (a := ls_en 16 (σ 16 (480 * p + 4 * c + s))) (by rw [eix]; exact v26) (bx (a := M27) t26 (bx (ls_fR h27 27 (by decide)) (bx r28_27 (bx (ls_fR h27 17 (by decide)) (bx (a := ls_en 17 (σ 17 (480 * p + 4 * c + s))) (by rw [eix]; exact v27) (bx (a := M28) t27 (bx r28_28 (bx (a := M29) (by rw [nI_1]; exact t28) (bx (ls_rc h29) (bx (a := M30) (by rw [eix]; exact t29) (bx r4 (bx (ls_fR h30 5 (by decide)) (bx r5 (bx (ls_fR h30 8 (by decide)) (bx r8 (bx (ls_rc h30) (bx t30 (bx (ls_rc h31) (bx (a := M32) (by rw [eix]; exact t31) (bx (ls_rc h32) (bx t32 (by rw [eix]; exact q))))))))))))))))))))))))))))))))))))))))))))))))))))))))))))))
  · exact c31
end
