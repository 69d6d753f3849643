section
variable {n : Nat} {σ : ls_S} {B M : mm_M}
-- lists read
theorem lc_get {a k i : Nat} (hk : mm_k M a = some (0, 0)) (hL : lc_L n M a k) (hs : mm_I M a 2 = nI k) (h31 : k < 2 ^ 31) (hi : i < k) : f_Jx4a65c_get_915e3 M (some a) (nI i) = some (some (lc_it M a i)) := by
  rcases hL with ⟨h0, -⟩ | ⟨cap, h1, h2, h3, h4, h5, h6, h7, h8⟩
  · omega
  · refine bx (pe_fI 2 hk) (bx (a := nI i) (bx (a := nI i) (iff_ (nI_pos (by omega)) (ift (by rw [hs]; exact nI_lt hi h31) rfl)) rfl) (bx (pe_rc hk) (bx (a := some (lc_it M a i)) (bx (pe_fR 1 hk) ?_) rfl)))
    rw [h4]
    exact bx (pe_aR h6 (by omega) (by omega)) (congrArg some (h7 i hi))
theorem lc_size {a : Nat} (hk : mm_k M a = some (0, 0)) : f_Jx4a65c_size_8abf5 M (some a) = some (mm_I M a 2) := bx (pe_fI 2 hk) rfl
-- learners, hands, memories
theorem lc_learnerAt (h : lc n σ B M) {p : Nat} (hp : p < 4) : f_X9_learnerAt M (some n) (nI p) = some (some (n + lc_lo p)) := by
  have q : ∀ p, p < 4 → (7, p, lc_lo p) ∈ lc_rt := by decide
  have e7 : mm_R M n 2 = some (n + 7) := lc_r h (0, 2, 7) (by decide)
  have k0 : mm_k M n = some (10, 0) := lc_k h (0, 10, 0) (by decide)
  have k7 : mm_k M (n + 7) = some (15, 4) := lc_k h (7, 15, 4) (by decide)
  refine iff_ (nI_pos (by omega)) (bx (pe_fR 2 k0) ?_)
  rw [e7]
  refine bx (pe_ln k7 (by omega)) (ift (nI_lt hp (by omega)) (bx (pe_fR 2 k0) ?_))
  rw [e7]
  exact bx (pe_aR k7 hp (by omega)) (congrArg some (lc_r h _ (q p hp)))
theorem lc_learnerOut (h : lc n σ B M) {x : Int32} (hx : ¬ (0 ≤ x ∧ x < 4)) : f_X9_learnerAt M (some n) x = some none := by
  have e7 : mm_R M n 2 = some (n + 7) := lc_r h (0, 2, 7) (by decide)
  have k0 : mm_k M n = some (10, 0) := lc_k h (0, 10, 0) (by decide)
  have k7 : mm_k M (n + 7) = some (15, 4) := lc_k h (7, 15, 4) (by decide)
  by_cases h0 : x < 0
  · exact ift h0 rfl
  · refine iff_ h0 (bx (pe_fR 2 k0) ?_)
    rw [e7]
    exact bx (pe_ln k7 (by omega)) (iff_ (show ¬ x < nI 4 from fun q => hx ⟨Int32.not_lt.mp h0, q⟩) rfl)
theorem lc_handAt (h : lc n σ B M) (h3 : σ 3 0 ≤ 120) {p c : Nat} (hp : p < 5) (hc : c < σ 3 0) : f_X6_handAt M (some (n + lc_lo p)) (nI c) = some (some (lc_hd n M p c)) := by
  have es : mm_I M (n + (lc_lo p + 1)) 2 = nI (σ 3 0) := h.2.1.2.2.2.1.1 p hp
  refine iff_ (nI_pos (by omega)) (bx (pe_fR 0 (lc_kla h hp)) ?_)
  rw [lc_rlh h hp]
  refine bx (pe_rc (lc_klh h hp)) (bx (lc_size (lc_klh h hp)) (ift (by rw [es]; exact nI_lt hc (by omega)) (bx (pe_fR 0 (lc_kla h hp)) ?_)))
  rw [lc_rlh h hp]
  exact bx (pe_rc (lc_klh h hp)) (bx (lc_get (lc_klh h hp) (h.1.2.2.1.1 p hp) es (by omega) hc) (bx (pe_cc (h.1.2.2.2.1 p hp c hc).1) rfl))
theorem lc_handOut (h : lc n σ B M) {p : Nat} (hp : p < 5) {x : Int32} (hx : ¬ (0 ≤ x ∧ x < nI (σ 3 0))) : f_X6_handAt M (some (n + lc_lo p)) x = some none := by
  have es : mm_I M (n + (lc_lo p + 1)) 2 = nI (σ 3 0) := h.2.1.2.2.2.1.1 p hp
  by_cases h0 : x < 0
  · exact ift h0 rfl
  · refine iff_ h0 (bx (pe_fR 0 (lc_kla h hp)) ?_)
    rw [lc_rlh h hp]
    exact bx (pe_rc (lc_klh h hp)) (bx (lc_size (lc_klh h hp)) (iff_ (by rw [es]; exact fun q => hx ⟨Int32.not_lt.mp h0, q⟩) rfl))
theorem lc_memAt5 (h : lc n σ B M) {p c s : Nat} (hp : p < 5) (hc : c < σ 3 0) (hs : s < σ 0 c) (h4 : σ 0 c ≤ 4) : f_X5_memoryAt M (some (lc_hd n M p c)) (nI s) = some (some (lc_mu n M p c s)) := by
  obtain ⟨k1, -, k3, k4, -, k6⟩ := h.1.2.2.2.1 p hp c hc
  refine iff_ (nI_pos (by omega)) (bx (pe_fR 0 k1) ?_)
  rw [k3]
  refine bx (pe_ln k4 (by omega)) (ift (nI_lt hs (by omega)) (bx (pe_fR 0 k1) ?_))
  rw [k3]
  exact bx (pe_aR k4 hs (by omega)) (congrArg some (k6 s hs).1)
theorem lc_memOut5 (h : lc n σ B M) {p c : Nat} (hp : p < 5) (hc : c < σ 3 0) {x : Int32} (hx : ¬ (0 ≤ x ∧ x < nI (σ 0 c))) : f_X5_memoryAt M (some (lc_hd n M p c)) x = some none := by
  obtain ⟨k1, -, k3, k4, -, k6⟩ := h.1.2.2.2.1 p hp c hc
  by_cases h0 : x < 0
  · exact ift h0 rfl
  · refine iff_ h0 (bx (pe_fR 0 k1) ?_)
    rw [k3]
    exact bx (pe_ln k4 (by omega)) (iff_ (fun q => hx ⟨Int32.not_lt.mp h0, q⟩) rfl)
theorem lc_memOf (h : lc n σ B M) (h1 : ls_O1 σ) {p c s : Nat} (hp : p < 5) (hc : c < σ 3 0) (hs : s < σ 0 c) : f_X6_memoryOf M (some (n + lc_lo p)) (nI c) (nI s) = some (some (lc_mu n M p c s)) :=
  bx (pe_rc (lc_kla h hp)) (bx (lc_handAt h h1.1 hp hc) (iff_ (fun q => nomatch q) (bx (pe_rc (h.1.2.2.2.1 p hp c hc).1) (bx (lc_memAt5 h hp hc hs (h1.2.1 c hc).2) rfl))))
theorem lc_memOfOut (h : lc n σ B M) (h1 : ls_O1 σ) {p : Nat} (hp : p < 5) {x y : Int32} (hx : ¬ ls_sideI σ x y) : f_X6_memoryOf M (some (n + lc_lo p)) x y = some none := by
  refine bx (pe_rc (lc_kla h hp)) ?_
  have h120 := h1.1
  by_cases hc : 0 ≤ x ∧ x < nI (σ 3 0)
  · obtain ⟨c, hc2, rfl⟩ := pe_arg (by omega) hc.1 hc.2
    have h4 := (h1.2.1 c hc2).2
    refine bx (lc_handAt h h1.1 hp hc2) (iff_ (fun q => nomatch q) (bx (pe_rc (h.1.2.2.2.1 p hp c hc2).1) (bx (lc_memOut5 h hp hc2 (fun q => ?_)) rfl)))
    obtain ⟨s, hs, rfl⟩ := pe_arg (by omega) q.1 q.2
    exact hx ⟨c, s, hc2, hs, rfl, rfl⟩
  · exact bx (lc_handOut h hp hc) (ift rfl rfl)
theorem lc_memAt (h : lc n σ B M) (h1 : ls_O1 σ) {p c s : Nat} (hp : p < 5) (hc : c < σ 3 0) (hs : s < σ 0 c) : f_X6_memoryAt M (some (n + lc_lo p)) (nI (4 * c + s)) = some (some (lc_mu n M p c s)) := by
  have h120 := h1.1
  have h4 := (h1.2.1 c hc).2
  refine ift (nI_pos' (by omega)) (bx (pe_rc (lc_kla h hp)) (bx (a := some (lc_hd n M p c)) ?_ (iff_ (fun q => nomatch q) (bx (pe_rc (h.1.2.2.2.1 p hp c hc).1) (bx (a := some (lc_mu n M p c s)) ?_ rfl)))))
  · rw [show nI (4 * c + s) / 4 = nI c by rw [show nI (4 * c + s) / 4 = nI ((4 * c + s) / 4) from pk_div (d := 4) (by omega) (by omega) (by omega)]; congr 1; omega]
    exact lc_handAt h h1.1 hp hc
  · rw [show nI (4 * c + s) - nI (4 * c + s) / 4 * 4 = nI s by rw [show nI (4 * c + s) - nI (4 * c + s) / 4 * 4 = nI ((4 * c + s) % 4) from pk_rem (d := 4) (by omega) (by omega) (by omega)]; congr 1; omega]
    exact lc_memAt5 h hp hc hs h4
theorem lc_memAtOut (h : lc n σ B M) (h1 : ls_O1 σ) {p q : Nat} (hp : p < 5) (hq : q < 480) (hx : ¬ (q / 4 < σ 3 0 ∧ q % 4 < σ 0 (q / 4))) : f_X6_memoryAt M (some (n + lc_lo p)) (nI q) = some none := by
  have h120 := h1.1
  refine ift (nI_pos' (by omega)) (bx (pe_rc (lc_kla h hp)) ?_)
  rw [show nI q / 4 = nI (q / 4) from pk_div (d := 4) (by omega) (by omega) (by omega)]
  by_cases hc : q / 4 < σ 3 0
  · refine bx (lc_handAt h h1.1 hp hc) (iff_ (fun q => nomatch q) (bx (pe_rc (h.1.2.2.2.1 p hp _ hc).1) (bx (a := none) ?_ rfl)))
    rw [show nI q - nI q / 4 * 4 = nI (q % 4) from pk_rem (d := 4) (by omega) (by omega) (by omega)]
    refine lc_memOut5 h hp hc (fun z => hx ⟨hc, ?_⟩)
    have h4 := (h1.2.1 _ hc).2
    exact (nI_ltI (by omega) (by omega)).mp z.2
  · exact bx (lc_handOut h hp (fun z => hc ((nI_ltI (by omega) (by omega)).mp z.2))) (ift rfl rfl)
theorem lc_memoryOf (h : lc n σ B M) (h1 : ls_O1 σ) {p c s : Nat} (hp : p < 4) (hc : c < σ 3 0) (hs : s < σ 0 c) : f_X9_memoryOf M (some n) (nI p) (nI c) (nI s) = some (some (lc_mu n M p c s)) :=
  bx (pe_rc (lc_k h (0, 10, 0) (by decide))) (bx (lc_learnerAt h hp) (iff_ (fun q => nomatch q) (bx (pe_rc (lc_kla h (by omega))) (bx (lc_memOf h h1 (by omega) hc hs) rfl))))
theorem lc_memoryOut (h : lc n σ B M) (h1 : ls_O1 σ) {u x y : Int32} (hx : ¬ ((0 ≤ u ∧ u < 4) ∧ ls_sideI σ x y)) : f_X9_memoryOf M (some n) u x y = some none := by
  refine bx (pe_rc (lc_k h (0, 10, 0) (by decide))) ?_
  by_cases hu : 0 ≤ u ∧ u < 4
  · obtain ⟨p, hp, rfl⟩ := pe_arg (n := 4) (by omega) hu.1 hu.2
    exact bx (lc_learnerAt h hp) (iff_ (fun q => nomatch q) (bx (pe_rc (lc_kla h (by omega))) (bx (lc_memOfOut h h1 (by omega) (fun q => hx ⟨hu, q⟩)) rfl)))
  · exact bx (lc_learnerOut h hu) (ift rfl rfl)
end
