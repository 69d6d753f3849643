section
variable {n : Nat} {σ τ : ls_S} {B M M1 : mm_M}
theorem lc_at_of (h : lc n σ B M) {p c s : Nat} (hp : p < 5) (hc : c < σ 3 0) (hs : s < σ 0 c) : lc_at M (lc_mu n M p c s) (ls_at σ (480 * p + 4 * c + s)) := by
  have i7 := h.2.1.2.2.2.2.2.2.1 p hp c hc s hs
  exact ⟨((h.1.2.2.2.1 p hp c hc).2.2.2.2.2 s hs).2.1, i7 0 (by omega), i7 1 (by omega), i7 2 (by omega), i7 3 (by omega), i7 4 (by omega)⟩
theorem lc_cv_of (h : lc n σ B M) : lc_cv n M := ⟨lc_k h (1, 2, 0) (by decide), lc_r h (1, 0, 2) (by decide), lc_k h (2, 12, 400) (by decide), h.2.1.2.2.1⟩
theorem lc_mu_of (hk : M1.1 = M.1) (hr : M1.2.2.1 = M.2.2.1) (p c s : Nat) : lc_mu n M1 p c s = lc_mu n M p c s := by
  have e : ∀ a k, mm_R M1 a k = mm_R M a k := fun a k => congrFun (congrFun hr a) k
  simp only [lc_mu, lc_ma, lc_hd, lc_it, lc_el, e]
/-- the same cells, the same pointers: numbers alone may differ -/
def lc_sk (M M1 : mm_M) : Prop := M1.1 = M.1 ∧ M1.2.2.1 = M.2.2.1 ∧ M1.2.2.2.2 = M.2.2.2.2
theorem lc_sk_rf (M : mm_M) : lc_sk M M := ⟨rfl, rfl, rfl⟩
theorem lc_sk_tr {M M1 M2 : mm_M} (h : lc_sk M M1) (h2 : lc_sk M1 M2) : lc_sk M M2 := ⟨h2.1.trans h.1, h2.2.1.trans h.2.1, h2.2.2.trans h.2.2⟩
theorem lc_sk_I (M : mm_M) (a k : Nat) (v : Int32) : lc_sk M (mm_sI M a k v) := ⟨rfl, rfl, rfl⟩
theorem lc_sk_L (M : mm_M) (a k : Nat) (v : Int64) : lc_sk M (mm_sL M a k v) := ⟨rfl, rfl, rfl⟩
theorem lc_sk_df {a : Nat} (h : lc_df M M1 a) : lc_sk M M1 := ⟨h.1, congrArg (fun x => x.1) h.2.1, congrArg (fun x => x.2.2) h.2.1⟩
theorem lc_sk_mu (h : lc_sk M M1) (p c s : Nat) : lc_mu n M1 p c s = lc_mu n M p c s := lc_mu_of h.1 h.2.1 p c s
theorem lc_sk_hd (h : lc_sk M M1) (p c : Nat) : lc_hd n M1 p c = lc_hd n M p c := by
  have e : ∀ a k, mm_R M1 a k = mm_R M a k := fun a k => congrFun (congrFun h.2.1 a) k
  simp only [lc_hd, lc_it, lc_el, e]
/-- a memory changed -/
theorem lc_pt_of (h : lc n σ B M) (h1 : ls_O1 σ) {p c s : Nat} (hp : p < 5) (hc : c < σ 3 0) (hs : s < σ 0 c) {v : ls_V} (hd : lc_df M M1 (lc_mu n M p c s)) (ha : lc_at M1 (lc_mu n M p c s) v) : lc n (ls_pt σ (480 * p + 4 * c + s) v) B M1 := by
  generalize hμ : lc_mu n M p c s = μ at hd ha
  have w : ∀ {τ : ls_S} {M2 : mm_M} (k x : Nat), k < 5 → lc n τ B M2 → lc_sk M M2 → τ 3 = σ 3 → τ 0 = σ 0 → τ 1 = σ 1 → τ 2 = σ 2 → lc n (mm_u τ (lc_fl k) (480 * p + 4 * c + s) x) B (mm_sI M2 μ k (ls_en (lc_fl k) x)) := by
    intro τ M2 k x hk h2 hsk e3 e0 e1 e2
    have := lc_wm h2 (p := p) (c := c) (s := s) (k := k) hp (by rw [e3]; exact hc) (by rw [e0]; exact hs) (by omega) (by unfold ls_O1; rw [e3, e0, e1, e2]; exact h1) x
    rw [lc_sk_mu hsk, hμ] at this
    exact this
  have q0 := w 0 v.1 (by omega) h (lc_sk_rf M) rfl rfl rfl rfl
  have q1 := w 1 v.2.1 (by omega) q0 ⟨rfl, rfl, rfl⟩ rfl rfl rfl rfl
  have q2 := w 2 v.2.2.1 (by omega) q1 ⟨rfl, rfl, rfl⟩ rfl rfl rfl rfl
  have q3 := w 3 v.2.2.2.1 (by omega) q2 ⟨rfl, rfl, rfl⟩ rfl rfl rfl rfl
  have q4 := w 4 v.2.2.2.2 (by omega) q3 ⟨rfl, rfl, rfl⟩ rfl rfl rfl rfl
  have e : M1 = mm_sI (mm_sI (mm_sI (mm_sI (mm_sI M μ 0 (nI v.1)) μ 1 (nI v.2.1)) μ 2 (nI v.2.2.1)) μ 3 (nI v.2.2.2.1 - 1)) μ 4 (nI v.2.2.2.2) := by
    have eI : M1.2.1 = (mm_sI (mm_sI (mm_sI (mm_sI (mm_sI M μ 0 (nI v.1)) μ 1 (nI v.2.1)) μ 2 (nI v.2.2.1)) μ 3 (nI v.2.2.2.1 - 1)) μ 4 (nI v.2.2.2.2)).2.1 := by
      funext b k
      show mm_I M1 b k = mm_I (mm_sI (mm_sI (mm_sI (mm_sI (mm_sI M μ 0 (nI v.1)) μ 1 (nI v.2.1)) μ 2 (nI v.2.2.1)) μ 3 (nI v.2.2.2.1 - 1)) μ 4 (nI v.2.2.2.2)) b k
      simp only [mm_II]
      by_cases hb : b = μ
      · subst hb
        by_cases hk : k < 5
        · have : k = 0 ∨ k = 1 ∨ k = 2 ∨ k = 3 ∨ k = 4 := by omega
          rcases this with rfl | rfl | rfl | rfl | rfl
          · simpa using ha.2.1
          · simpa using ha.2.2.1
          · simpa using ha.2.2.2.1
          · simpa using ha.2.2.2.2.1
          · simpa using ha.2.2.2.2.2
        · rw [hd.2.2 _ _ (fun z => hk z.2), if_neg (by omega), if_neg (by omega), if_neg (by omega), if_neg (by omega), if_neg (by omega)]
      · rw [hd.2.2 _ _ (fun z => hb z.1), if_neg (fun z => hb z.1), if_neg (fun z => hb z.1), if_neg (fun z => hb z.1), if_neg (fun z => hb z.1), if_neg (fun z => hb z.1)]
    obtain ⟨K1, I1, r1⟩ := M1
    have a1 : K1 = M.1 := hd.1
    have a2 : r1 = M.2.2 := hd.2.1
    subst a1 a2
    show (M.1, I1, M.2.2) = _
    have a3 : I1 = _ := eI
    rw [a3]
    rfl
  rw [e]
  exact q4
end
