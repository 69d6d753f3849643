theorem ls_F14 : 900 ≤ ls_F 14 ∧ ls_F 15 < 900 := by decide +kernel
theorem ls_due_fd {v : ls_V} {t d : Nat} (hk : ls_ok v t) (h0 : 0 < v.1) (ha : v.2.2.2.2 < 8) (hd : t ≤ d) : ls_due v d ↔ ls_fd v t ≤ d := by
  obtain ⟨k1, k2, k3, k4, k5, k6, k7⟩ := hk
  have e1 : ls_ch v d < 900 ↔ 15 ≤ 16000 * (d + 1 - v.2.2.2.1) / v.1 := by
    unfold ls_ch
    constructor
    · intro h
      rcases Nat.lt_or_ge (16000 * (d + 1 - v.2.2.2.1) / v.1) 15 with h2 | h2
      · have := ls_F_an (show 16000 * (d + 1 - v.2.2.2.1) / v.1 ≤ 14 by omega)
        have := ls_F14.1
        omega
      · exact h2
    · intro h
      have := ls_F_an h
      have := ls_F14.2
      omega
  have e2 : 15 ≤ 16000 * (d + 1 - v.2.2.2.1) / v.1 ↔ 15 * v.1 ≤ 16000 * (d + 1 - v.2.2.2.1) := Nat.le_div_iff_mul_le h0
  unfold ls_fd
  constructor
  · intro h
    have h3 := e2.mp (e1.mp h.2.2)
    split <;> omega
  · intro h
    refine ⟨h0, ha, e1.mpr (e2.mpr ?_)⟩
    split at h <;> omega
theorem ls_fd_b {v : ls_V} {t : Nat} (hk : ls_ok v t) : t ≤ ls_fd v t ∧ ls_fd v t ≤ t + 3751 := by
  obtain ⟨k1, k2, k3, k4, k5, k6, k7⟩ := hk
  unfold ls_fd
  split <;> omega
/-- a sum -/
def ls_sm (f : Nat → Nat) : Nat → Nat
  | 0 => 0
  | k + 1 => ls_sm f k + f k
/-- of a kind: 1 DUE, 2 NEW, else a LEECH -/
def ls_ki (κ on : Nat) (v : ls_V) : Nat := if κ = 1 then (if ls_due v on then 1 else 0) else if κ = 2 then (if v.1 = 0 then 1 else 0) else if v.2.2.2.2 < 8 then 0 else 1
section
variable {n k : Nat} {σ τ : ls_S} {B M M1 : mm_M}
theorem ls_firstDue {v : ls_V} (h : ls_M n σ B M) (hv : ls_sc σ = v) {t u : Nat} (hk : ls_ok v t) (h0 : 0 < v.1) (ha : v.2.2.2.2 < 8) (htu : t ≤ u) (hu : u ≤ 120000) : f_X10_firstDue M (some (n + 31)) (nI t) (nI u) = some (if ls_fd v t ≤ u then nI (ls_fd v t) else -1) := by
  have hb := ls_fd_b hk
  have key : ∀ d, t ≤ d → d ≤ u → f_X10_firstDue_7 M (some (n + 31)) (nI u) (nI d) = if ls_fd v t ≤ d then some (.inr (nI d)) else some (.inl (nI (d + 1))) := fun d h1 h2 => by
    have hd := ls_isDue h hv (ls_ok_up hk h1) (show d ≤ 200000 by omega)
    by_cases e : ls_fd v t ≤ d
    · rw [if_pos e]
      rw [if_pos ((ls_due_fd hk h0 ha h1).mpr e)] at hd
      exact bx (ls_rc h) (bx hd (iff_ ne10 rfl))
    · rw [if_neg e]
      rw [if_neg (fun q => e ((ls_due_fd hk h0 ha h1).mp q))] at hd
      refine bx (ls_rc h) (bx hd (ift rfl ?_))
      show some (Sum.inl (nI d + 1)) = _
      rw [nI_1]
  by_cases e : ls_fd v t ≤ u
  · rw [if_pos e]
    refine pe_for2 (body := fun x => f_X10_firstDue_2 M (some (n + 31)) (nI u) x) (fun i => nI i) t (ls_fd v t) hb.1 (fun i h1 h2 => ?_) ?_
    · refine iff_ (nI_nlt (by omega) (by omega)) ?_
      rw [key i h1 (by omega), if_neg (by omega)]
    · refine iff_ (nI_nlt e (by omega)) ?_
      rw [key _ hb.1 e, if_pos (Nat.le_refl _)]
  · rw [if_neg e]
    refine pe_for2 (body := fun x => f_X10_firstDue_2 M (some (n + 31)) (nI u) x) (fun i => nI i) t (u + 1) (by omega) (fun i h1 h2 => ?_) ?_
    · refine iff_ (nI_nlt (by omega) (by omega)) ?_
      rw [key i h1 (by omega), if_neg (by omega)]
    · exact ift (nI_lt (by omega) (by omega)) (mpx rfl)
theorem ls_sc1 {v : ls_V} (h : ls_sc σ = v) : σ 29 0 = v.1 ∧ σ 30 0 = v.2.1 ∧ σ 31 0 = v.2.2.1 ∧ σ 32 0 = v.2.2.2.1 ∧ σ 33 0 = v.2.2.2.2 := by
  subst h
  exact ⟨rfl, rfl, rfl, rfl, rfl⟩
theorem ls_fin1 (h : ls_M n τ M M1) (hc : lc n σ M M) (hv : ls_v σ τ) (hG : ls_G k σ) : ls_Q n (k + 1) M M1 := ls_fin h (lc_σ hc hv) (ls_G_v hG hv)
theorem ca_when (hM : ls_M n σ M M) (hc : lc n σ M M) (hG : ls_G k σ) (x y z : Int32) : ls_c1 n k M (fun M => f_X9_when M (some n) x y z) (fun M => f_X10_when M (some (n + 31)) x y z) := by
  have O1 := hG.1
  have h120 := O1.1
  rcases pe_pupil x with ⟨p, hp, rfl⟩ | hx
  · rcases pe_side σ y z with ⟨c, s, hc1, hs1, rfl, rfl⟩ | hs
    · obtain ⟨ok1, ok2, ok3⟩ := ls_G_ok hG hp hc1 hs1
      have h4 := (O1.2.1 c hc1).2
      have np : p < 5 := by omega
      have kl := lc_kla hc np
      have km := lc_memRc hc np hc1 hs1
      have hv := lc_at_of hc np hc1 hs1
      have t5 := hG.2.1.2.2.2.2 p hp
      have i5 := hc.2.1.2.2.2.2.1 p hp
      have X : ∀ {r}, f_X9_when_26 M (some n) (some (n + lc_lo p)) (some (lc_mu n M p c s)) = r → f_X9_when M (some n) (nI p) (nI c) (nI s) = r := fun q => bx (pe_rc (lc_k0 hc)) (bx (lc_learnerAt hc hp) (bx (pe_rc (lc_k0 hc)) (bx (lc_memoryOf hc O1 hp hc1 hs1) (iff_ (fun q => nomatch q) (iff_ (fun q => nomatch q) q)))))
      have Y : ∀ {r}, f_X10_when_18 M (some (n + 31)) (nI p) (nI c) (nI s) = r → f_X10_when M (some (n + 31)) (nI p) (nI c) (nI s) = r := fun q => bx (ls_isPupil_in _ hp) (iff_ ne10 (bx (ls_rc hM) (bx (ls_isSide_in hM h120 hc1 hs1 (by omega)) (iff_ ne10 q))))
      obtain ⟨M1, τ, e1, h1, v1, c1⟩ := ls_take hM ok3
      have e8 : τ 8 p = σ 8 p := congrFun (v1 8 (ls_nx_of (by omega) (by omega))) p
      have hR := ls_fin1 h1 hc v1 hG
      generalize ls_at σ (480 * p + 4 * c + s) = v at *
      obtain ⟨s29, -, -, -, s33⟩ := ls_sc1 c1
      obtain ⟨k1, k2, k3, k4, k5, k6, k7⟩ := id ok1
      have htc := lc_isToCome hv (by omega) (by omega)
      by_cases hs0 : v.1 = 0
      · exact ⟨-1, M1, X (bx (pe_rc km) (bx htc (ift (if_neg (by omega)) rfl))), Y (bx (ls_rc hM) (bx (a := M1) (by rw [ls_ix]; exact e1) (bx (ls_fI h1 29 (by decide)) (ift (show nI (τ 29 0) = 0 by rw [s29, hs0]; decide) rfl)))), hR⟩
      · have hlee := ls_isLeech h1 (by omega)
        by_cases ha : v.2.2.2.2 < 8
        · rw [if_pos (show 0 < v.1 ∧ v.2.2.2.2 < 8 from ⟨by omega, ha⟩)] at htc
          rw [if_pos (show τ 33 0 < 8 by omega)] at hlee
          have hfd := ls_firstDue h1 c1 (t := σ 8 p) (u := σ 8 p + 10000) ok1 (by omega) ha (by omega) (by omega)
          rw [if_pos (show ls_fd v (σ 8 p) ≤ σ 8 p + 10000 by have := ls_fd_b ok1; omega)] at hfd
          exact ⟨nI (ls_fd v (σ 8 p)), M1, X (bx (pe_rc km) (bx htc (iff_ ne10 (bx (pfI kl i5.1) (bx (lc_r0 hc 0 1 (by decide)) (bx (pe_rc km) (bx (lc_firstDue hv (lc_cv_of hc) ok1 (by omega)) rfl))))))), Y (bx (ls_rc hM) (bx (a := M1) (by rw [ls_ix]; exact e1) (bx (ls_fI h1 29 (by decide)) (iff_ (show ¬ nI (τ 29 0) = 0 by rw [s29]; exact nI_ne0 (by omega) (by omega)) (bx (ls_rc h1) (bx hlee (ift rfl (bx (ls_fR h1 8 (by decide)) (bx (ls_aI h1 8 p (by decide) hp) (bx (ls_fR h1 8 (by decide)) (bx (ls_aI h1 8 p (by decide) hp) (bx (ls_rc h1) (bx (a := nI (ls_fd v (σ 8 p))) (by show f_X10_firstDue M1 _ (nI (τ 8 p)) (nI (τ 8 p) + nI 10000) = _; rw [e8, nI_add]; exact hfd) rfl))))))))))))), hR⟩
        · rw [if_neg (fun q => ha q.2)] at htc
          rw [if_neg (show ¬ τ 33 0 < 8 by omega)] at hlee
          exact ⟨-1, M1, X (bx (pe_rc km) (bx htc (ift rfl rfl))), Y (bx (ls_rc hM) (bx (a := M1) (by rw [ls_ix]; exact e1) (bx (ls_fI h1 29 (by decide)) (iff_ (show ¬ nI (τ 29 0) = 0 by rw [s29]; exact nI_ne0 (by omega) (by omega)) (bx (ls_rc h1) (bx hlee (iff_ ne10 rfl))))))), hR⟩
    · exact ⟨-1, M, bx (pe_rc (lc_k0 hc)) (bx (lc_learnerAt hc hp) (bx (pe_rc (lc_k0 hc)) (bx (lc_memoryOut hc O1 (fun q => hs q.2)) (iff_ (fun q => nomatch q) (ift rfl rfl))))), bx (ls_isPupil_in M hp) (iff_ ne10 (bx (ls_rc hM) (bx (ls_isSide_out hM h120 (fun c h => ls_O1s O1 h) hs) (ift rfl rfl)))), ls_no hM hc hG⟩
  · exact ⟨-1, M, bx (pe_rc (lc_k0 hc)) (bx (lc_learnerOut hc hx) (bx (pe_rc (lc_k0 hc)) (bx (lc_memoryOut hc O1 (fun q => hx q.1)) (ift rfl rfl)))), bx (ls_isPupil_out M hx) (ift rfl rfl), ls_no hM hc hG⟩
/-- a chance as it is told -/
def ls_c0h (v : ls_V) (on : Nat) : Nat := if v.1 = 0 then 0 else ls_ch v on
theorem ls_mem5 (hM : ls_M n σ B M) (hG : ls_G k σ) {p c s : Nat} (hp : p < 4) (hc1 : c < σ 3 0) (hs1 : s < σ 0 c) (w : Int32) (hw : w = 5) : ∃ M1 τ, f_X10_memory M (some (n + 31)) (nI p) (nI c) (nI s) w = some (nI (ls_c0h (ls_at σ (480 * p + 4 * c + s)) (σ 8 p)), M1) ∧ ls_M n τ B M1 ∧ ls_v σ τ := by
  obtain ⟨ok1, ok2, ok3⟩ := ls_G_ok hG hp hc1 hs1
  have h4 := (hG.1.2.1 c hc1).2
  have t5 := hG.2.1.2.2.2.2 p hp
  obtain ⟨M1, τ, e1, h1, v1, c1⟩ := ls_take hM ok3
  have e8 : τ 8 p = σ 8 p := congrFun (v1 8 (ls_nx_of (by omega) (by omega))) p
  refine ⟨M1, τ, bx (ls_isPupil_in _ hp) (iff_ ne10 (bx (ls_rc hM) (bx (ls_isSide_in hM hG.1.1 hc1 hs1 (by omega)) (iff_ ne10 (bx (ls_rc hM) (bx (a := M1) (by rw [ls_ix]; exact e1) (iff_ (by rw [hw]; decide) (iff_ (by rw [hw]; decide) (iff_ (by rw [hw]; decide) (iff_ (by rw [hw]; decide) (iff_ (by rw [hw]; decide) (ift hw (bx (ls_fI h1 29 (by decide)) ?_))))))))))))), h1, v1⟩
  generalize ls_at σ (480 * p + 4 * c + s) = v at *
  obtain ⟨s29, -, -, -, s33⟩ := ls_sc1 c1
  obtain ⟨k1, k2, k3, k4, k5, k6, k7⟩ := id ok1
  unfold ls_c0h
  by_cases hs0 : v.1 = 0
  · rw [if_pos hs0]
    exact ift (show nI (τ 29 0) = 0 by rw [s29, hs0]; decide) rfl
  · rw [if_neg hs0]
    exact iff_ (show ¬ nI (τ 29 0) = 0 by rw [s29]; exact nI_ne0 (by omega) (by omega)) (bx (ls_fR h1 8 (by decide)) (bx (ls_aI h1 8 p (by decide) hp) (bx (ls_rc h1) (bx (a := nI (ls_ch v (σ 8 p))) (by show f_X10_chance M1 _ (nI (τ 8 p)) = _; rw [e8]; exact ls_chance h1 c1 (by omega) k2 k6 (by omega)) rfl))))
theorem ca_memory (hM : ls_M n σ M M) (hc : lc n σ M M) (hG : ls_G k σ) (x y z w : Int32) : ls_c1 n k M (fun M => f_X9_memory M (some n) x y z w) (fun M => f_X10_memory M (some (n + 31)) x y z w) := by
  have O1 := hG.1
  have h120 := O1.1
  rcases pe_pupil x with ⟨p, hp, rfl⟩ | hx
  · rcases pe_side σ y z with ⟨c, s, hc1, hs1, rfl, rfl⟩ | hs
    · obtain ⟨ok1, ok2, ok3⟩ := ls_G_ok hG hp hc1 hs1
      have h4 := (O1.2.1 c hc1).2
      have np : p < 5 := by omega
      have kl := lc_kla hc np
      have km := lc_memRc hc np hc1 hs1
      have hv := lc_at_of hc np hc1 hs1
      have t5 := hG.2.1.2.2.2.2 p hp
      have i5 := hc.2.1.2.2.2.2.1 p hp
      have i12 : mm_I M (lc_mu n M p c s) 5 = nI (σ 12 (480 * p + 4 * c + s)) := hc.2.1.2.2.2.2.2.2.1 p np c hc1 s hs1 5 (by omega)
      have X : ∀ {r}, f_X9_memory_26 M (some n) w (some (n + lc_lo p)) (some (lc_mu n M p c s)) = r → f_X9_memory M (some n) (nI p) (nI c) (nI s) w = r := fun q => bx (pe_rc (lc_k0 hc)) (bx (lc_learnerAt hc hp) (bx (pe_rc (lc_k0 hc)) (bx (lc_memoryOf hc O1 hp hc1 hs1) (iff_ (fun q => nomatch q) (iff_ (fun q => nomatch q) q)))))
      have Y : ∀ {r}, f_X10_memory_19 M (some (n + 31)) (nI p) (nI c) (nI s) w = r → f_X10_memory M (some (n + 31)) (nI p) (nI c) (nI s) w = r := fun q => bx (ls_isPupil_in _ hp) (iff_ ne10 (bx (ls_rc hM) (bx (ls_isSide_in hM h120 hc1 hs1 (by omega)) (iff_ ne10 q))))
      obtain ⟨M1, τ, e1, h1, v1, c1⟩ := ls_take hM ok3
      have e1' : f_X10_take M (some (n + 31)) (nI p * 480 + 4 * nI c + nI s) = some M1 := by rw [ls_ix]; exact e1
      have e8 : τ 8 p = σ 8 p := congrFun (v1 8 (ls_nx_of (by omega) (by omega))) p
      have e12 : τ 12 (480 * p + 4 * c + s) = σ 12 (480 * p + 4 * c + s) := congrFun (v1 12 (ls_nx_of (by omega) (by omega))) _
      have hR := ls_fin1 h1 hc v1 hG
      have hks := ls_isKnownSide h1 (ls_v3 v1 hG.2.2.1) (p := p) (c := c) (s := s) hp (by omega) (by omega)
      rw [ls_v_at v1, e8] at hks
      generalize ls_at σ (480 * p + 4 * c + s) = v at *
      obtain ⟨s29, s30, s31, s32, s33⟩ := ls_sc1 c1
      obtain ⟨k1, k2, k3, k4, k5, k6, k7⟩ := id ok1
      by_cases hw : 0 ≤ w ∧ w ≤ 9
      · obtain ⟨j, hj, he⟩ := pe_argle (n := 9) (by omega) hw.1 hw.2
        have N : ∀ i, i ≤ 9 → i ≠ j → ¬ w = nI i := fun i hi hne e => hne ((nI_eq (by omega) (by omega)).mp (e.symm.trans he))
        have X5 : ∀ {r}, j < 5 → f_X8_tell M (some (lc_mu n M p c s)) w = some r → f_X9_memory M (some n) (nI p) (nI c) (nI s) w = some r := fun h q => X (iff_ (Int32.not_lt.mpr hw.1) (ift hw.2 (iff_ (by rw [he]; exact nI_ge (b := 5) h (by omega)) (bx (pe_rc km) (bx q rfl)))))
        have X6 : ∀ {r}, 5 ≤ j → f_X8_tellOn M (some (lc_mu n M p c s)) w (nI (σ 8 p)) (some (n + 1)) = some r → f_X9_memory M (some n) (nI p) (nI c) (nI s) w = some r := fun h q => X (iff_ (Int32.not_lt.mpr hw.1) (ift hw.2 (ift (by rw [he]; exact nI_le (a := 5) h (by omega)) (bx (pfI kl i5.1) (bx (lc_r0 hc 0 1 (by decide)) (bx (pe_rc km) (bx q rfl)))))))
        have hj10 : j = 0 ∨ j = 1 ∨ j = 2 ∨ j = 3 ∨ j = 4 ∨ j = 5 ∨ j = 6 ∨ j = 7 ∨ j = 8 ∨ j = 9 := by omega
        rcases hj10 with rfl | rfl | rfl | rfl | rfl | rfl | rfl | rfl | rfl | rfl
        · exact ⟨nI v.1, M1, X5 (by omega) (ift he (bx (pfI km hv.2.1) rfl)), Y (bx (ls_rc hM) (bx e1' (ift he (bx (ls_fI h1 29 (by decide)) (by rw [s29]; rfl))))), hR⟩
        · exact ⟨nI v.2.1, M1, X5 (by omega) (iff_ (N 0 (by omega) (by omega)) (ift he (bx (pfI km hv.2.2.1) rfl))), Y (bx (ls_rc hM) (bx e1' (iff_ (N 0 (by omega) (by omega)) (ift he (bx (ls_fI h1 30 (by decide)) (by rw [s30]; rfl)))))), hR⟩
        · exact ⟨nI v.2.2.1, M1, X5 (by omega) (iff_ (N 0 (by omega) (by omega)) (iff_ (N 1 (by omega) (by omega)) (ift he (bx (pfI km hv.2.2.2.1) rfl)))), Y (bx (ls_rc hM) (bx e1' (iff_ (N 0 (by omega) (by omega)) (iff_ (N 1 (by omega) (by omega)) (ift he (bx (ls_fI h1 31 (by decide)) (by rw [s31]; rfl))))))), hR⟩
        · exact ⟨nI v.2.2.2.1 - 1, M1, X5 (by omega) (iff_ (N 0 (by omega) (by omega)) (iff_ (N 1 (by omega) (by omega)) (iff_ (N 2 (by omega) (by omega)) (ift he (bx (pfI km hv.2.2.2.2.1) rfl))))), Y (bx (ls_rc hM) (bx e1' (iff_ (N 0 (by omega) (by omega)) (iff_ (N 1 (by omega) (by omega)) (iff_ (N 2 (by omega) (by omega)) (ift he (bx (ls_fI h1 32 (by decide)) (by rw [s32]; rfl)))))))), hR⟩
        · exact ⟨nI v.2.2.2.2, M1, X5 (by omega) (iff_ (N 0 (by omega) (by omega)) (iff_ (N 1 (by omega) (by omega)) (iff_ (N 2 (by omega) (by omega)) (iff_ (N 3 (by omega) (by omega)) (ift he (bx (pfI km hv.2.2.2.2.2) rfl)))))), Y (bx (ls_rc hM) (bx e1' (iff_ (N 0 (by omega) (by omega)) (iff_ (N 1 (by omega) (by omega)) (iff_ (N 2 (by omega) (by omega)) (iff_ (N 3 (by omega) (by omega)) (ift he (bx (ls_fI h1 33 (by decide)) (by rw [s33]; rfl))))))))), hR⟩
        · refine ⟨nI (if v.1 = 0 then 0 else ls_ch v (σ 8 p)), M1, X6 (by omega) (ift he (bx (pe_rc km) (bx (lc_chanceOn hv (lc_cv_of hc) ok1 (by omega)) rfl))), Y (bx (ls_rc hM) (bx e1' (iff_ (N 0 (by omega) (by omega)) (iff_ (N 1 (by omega) (by omega)) (iff_ (N 2 (by omega) (by omega)) (iff_ (N 3 (by omega) (by omega)) (iff_ (N 4 (by omega) (by omega)) (ift he (bx (ls_fI h1 29 (by decide)) ?_))))))))), hR⟩
          by_cases hs0 : v.1 = 0
          · rw [if_pos hs0]
            exact ift (show nI (τ 29 0) = 0 by rw [s29, hs0]; decide) rfl
          · rw [if_neg hs0]
            exact iff_ (show ¬ nI (τ 29 0) = 0 by rw [s29]; exact nI_ne0 (by omega) (by omega)) (bx (ls_fR h1 8 (by decide)) (bx (ls_aI h1 8 p (by decide) hp) (bx (ls_rc h1) (bx (a := nI (ls_ch v (σ 8 p))) (by show f_X10_chance M1 _ (nI (τ 8 p)) = _; rw [e8]; exact ls_chance h1 c1 (by omega) k2 k6 (by omega)) rfl))))
        · have dc := lc_isDue hv (lc_cv_of hc) ok1 (by omega)
          have dm : f_X10_isDue M1 (some (n + 31)) (ls_en 8 (τ 8 p)) = some (if ls_due v (σ 8 p) then 1 else 0) := by
            show f_X10_isDue M1 _ (nI (τ 8 p)) = _
            rw [e8]; exact ls_isDue h1 c1 ok1 (by omega)
          by_cases hd : ls_due v (σ 8 p)
          · rw [if_pos hd] at dc dm
            exact ⟨1, M1, X6 (by omega) (iff_ (N 5 (by omega) (by omega)) (ift he (bx (pe_rc km) (bx dc (iff_ ne10 rfl))))), Y (bx (ls_rc hM) (bx e1' (iff_ (N 0 (by omega) (by omega)) (iff_ (N 1 (by omega) (by omega)) (iff_ (N 2 (by omega) (by omega)) (iff_ (N 3 (by omega) (by omega)) (iff_ (N 4 (by omega) (by omega)) (iff_ (N 5 (by omega) (by omega)) (ift he (bx (ls_fR h1 8 (by decide)) (bx (ls_aI h1 8 p (by decide) hp) (bx (ls_rc h1) (bx dm (iff_ ne10 rfl)))))))))))))), hR⟩
          · rw [if_neg hd] at dc dm
            exact ⟨0, M1, X6 (by omega) (iff_ (N 5 (by omega) (by omega)) (ift he (bx (pe_rc km) (bx dc (ift rfl rfl))))), Y (bx (ls_rc hM) (bx e1' (iff_ (N 0 (by omega) (by omega)) (iff_ (N 1 (by omega) (by omega)) (iff_ (N 2 (by omega) (by omega)) (iff_ (N 3 (by omega) (by omega)) (iff_ (N 4 (by omega) (by omega)) (iff_ (N 5 (by omega) (by omega)) (ift he (bx (ls_fR h1 8 (by decide)) (bx (ls_aI h1 8 p (by decide) hp) (bx (ls_rc h1) (bx dm (ift rfl rfl)))))))))))))), hR⟩
        · have dc := lc_isKnown hv (lc_cv_of hc) ok1 (by omega)
          obtain ⟨M2, τ2, f2, h2, v2, -⟩ := hks
          have hR2 := ls_fin1 h2 hc (ls_v_tr v1 v2) hG
          by_cases hd : ls_kn v (σ 8 p)
          · rw [if_pos hd] at dc f2
            exact ⟨1, M2, X6 (by omega) (iff_ (N 5 (by omega) (by omega)) (iff_ (N 6 (by omega) (by omega)) (ift he (bx (pe_rc km) (bx dc (iff_ ne10 rfl)))))), Y (bx (ls_rc hM) (bx e1' (iff_ (N 0 (by omega) (by omega)) (iff_ (N 1 (by omega) (by omega)) (iff_ (N 2 (by omega) (by omega)) (iff_ (N 3 (by omega) (by omega)) (iff_ (N 4 (by omega) (by omega)) (iff_ (N 5 (by omega) (by omega)) (iff_ (N 6 (by omega) (by omega)) (ift he (bx (ls_rc h1) (b2x f2 (iff_ ne10 rfl))))))))))))), hR2⟩
          · rw [if_neg hd] at dc f2
            exact ⟨0, M2, X6 (by omega) (iff_ (N 5 (by omega) (by omega)) (iff_ (N 6 (by omega) (by omega)) (ift he (bx (pe_rc km) (bx dc (ift rfl rfl)))))), Y (bx (ls_rc hM) (bx e1' (iff_ (N 0 (by omega) (by omega)) (iff_ (N 1 (by omega) (by omega)) (iff_ (N 2 (by omega) (by omega)) (iff_ (N 3 (by omega) (by omega)) (iff_ (N 4 (by omega) (by omega)) (iff_ (N 5 (by omega) (by omega)) (iff_ (N 6 (by omega) (by omega)) (ift he (bx (ls_rc h1) (b2x f2 (ift rfl rfl))))))))))))), hR2⟩
        · have dc := lc_isLeech hv (by omega)
          have dm := ls_isLeech h1 (by omega)
          rw [s33] at dm
          by_cases hd : v.2.2.2.2 < 8
          · rw [if_pos hd] at dc dm
            exact ⟨0, M1, X6 (by omega) (iff_ (N 5 (by omega) (by omega)) (iff_ (N 6 (by omega) (by omega)) (iff_ (N 7 (by omega) (by omega)) (ift he (bx (pe_rc km) (bx dc (ift rfl rfl))))))), Y (bx (ls_rc hM) (bx e1' (iff_ (N 0 (by omega) (by omega)) (iff_ (N 1 (by omega) (by omega)) (iff_ (N 2 (by omega) (by omega)) (iff_ (N 3 (by omega) (by omega)) (iff_ (N 4 (by omega) (by omega)) (iff_ (N 5 (by omega) (by omega)) (iff_ (N 6 (by omega) (by omega)) (iff_ (N 7 (by omega) (by omega)) (ift he (bx (ls_rc h1) (bx dm (ift rfl rfl)))))))))))))), hR⟩
          · rw [if_neg hd] at dc dm
            exact ⟨1, M1, X6 (by omega) (iff_ (N 5 (by omega) (by omega)) (iff_ (N 6 (by omega) (by omega)) (iff_ (N 7 (by omega) (by omega)) (ift he (bx (pe_rc km) (bx dc (iff_ ne10 rfl))))))), Y (bx (ls_rc hM) (bx e1' (iff_ (N 0 (by omega) (by omega)) (iff_ (N 1 (by omega) (by omega)) (iff_ (N 2 (by omega) (by omega)) (iff_ (N 3 (by omega) (by omega)) (iff_ (N 4 (by omega) (by omega)) (iff_ (N 5 (by omega) (by omega)) (iff_ (N 6 (by omega) (by omega)) (iff_ (N 7 (by omega) (by omega)) (ift he (bx (ls_rc h1) (bx dm (iff_ ne10 rfl)))))))))))))), hR⟩
        · have dm : mm_aI M1 (some (ls_ad n 12)) 14 (nI p * 480 + 4 * nI c + nI s) = some (nI (σ 12 (480 * p + 4 * c + s))) := by
            rw [ls_ix, ← e12]; exact ls_aI h1 12 _ (by decide) (show _ < 1920 from ok3)
          by_cases hd : σ 12 (480 * p + 4 * c + s) = 0
          · exact ⟨0, M1, X6 (by omega) (iff_ (N 5 (by omega) (by omega)) (iff_ (N 6 (by omega) (by omega)) (iff_ (N 7 (by omega) (by omega)) (iff_ (N 8 (by omega) (by omega)) (ift he (bx (pfI km i12) (ift (by rw [hd]; decide) rfl))))))), Y (bx (ls_rc hM) (bx e1' (iff_ (N 0 (by omega) (by omega)) (iff_ (N 1 (by omega) (by omega)) (iff_ (N 2 (by omega) (by omega)) (iff_ (N 3 (by omega) (by omega)) (iff_ (N 4 (by omega) (by omega)) (iff_ (N 5 (by omega) (by omega)) (iff_ (N 6 (by omega) (by omega)) (iff_ (N 7 (by omega) (by omega)) (iff_ (N 8 (by omega) (by omega)) (ift he (bx (ls_fR h1 12 (by decide)) (bx dm (ift (by rw [hd]; decide) rfl))))))))))))))), hR⟩
          · exact ⟨1, M1, X6 (by omega) (iff_ (N 5 (by omega) (by omega)) (iff_ (N 6 (by omega) (by omega)) (iff_ (N 7 (by omega) (by omega)) (iff_ (N 8 (by omega) (by omega)) (ift he (bx (pfI km i12) (iff_ (nI_ne0 (by omega) (by omega)) rfl))))))), Y (bx (ls_rc hM) (bx e1' (iff_ (N 0 (by omega) (by omega)) (iff_ (N 1 (by omega) (by omega)) (iff_ (N 2 (by omega) (by omega)) (iff_ (N 3 (by omega) (by omega)) (iff_ (N 4 (by omega) (by omega)) (iff_ (N 5 (by omega) (by omega)) (iff_ (N 6 (by omega) (by omega)) (iff_ (N 7 (by omega) (by omega)) (iff_ (N 8 (by omega) (by omega)) (ift he (bx (ls_fR h1 12 (by decide)) (bx dm (iff_ (nI_ne0 (by omega) (by omega)) rfl))))))))))))))), hR⟩
      · have hk : ∀ j, j ≤ 9 → ¬ w = nI j := fun j hj e => hw (by rw [e]; exact ⟨nI_pos' (by omega), nI_le (b := 9) hj (by omega)⟩)
        refine ⟨-2, M1, X ?_, Y (bx (ls_rc hM) (bx e1' (iff_ (hk 0 (by omega)) (iff_ (hk 1 (by omega)) (iff_ (hk 2 (by omega)) (iff_ (hk 3 (by omega)) (iff_ (hk 4 (by omega)) (iff_ (hk 5 (by omega)) (iff_ (hk 6 (by omega)) (iff_ (hk 7 (by omega)) (iff_ (hk 8 (by omega)) (iff_ (hk 9 (by omega)) rfl)))))))))))), hR⟩
        by_cases hw0 : w < 0
        · exact ift hw0 rfl
        · exact iff_ hw0 (iff_ (fun q => hw ⟨Int32.not_lt.mp hw0, q⟩) rfl)
    · exact ⟨-2, M, bx (pe_rc (lc_k0 hc)) (bx (lc_learnerAt hc hp) (bx (pe_rc (lc_k0 hc)) (bx (lc_memoryOut hc O1 (fun q => hs q.2)) (iff_ (fun q => nomatch q) (ift rfl rfl))))), bx (ls_isPupil_in M hp) (iff_ ne10 (bx (ls_rc hM) (bx (ls_isSide_out hM h120 (fun c h => ls_O1s O1 h) hs) (ift rfl rfl)))), ls_no hM hc hG⟩
  · exact ⟨-2, M, bx (pe_rc (lc_k0 hc)) (bx (lc_learnerOut hc hx) (bx (pe_rc (lc_k0 hc)) (bx (lc_memoryOut hc O1 (fun q => hx q.1)) (ift rfl rfl)))), bx (ls_isPupil_out M hx) (ift rfl rfl), ls_no hM hc hG⟩
theorem ca_known (hM : ls_M n σ M M) (hc : lc n σ M M) (hG : ls_G k σ) (x y : Int32) : ls_c1 n k M (fun M => f_X9_known M (some n) x y) (fun M => f_X10_known M (some (n + 31)) x y) := by
  have O1 := hG.1
  have h120 := O1.1
  rcases pe_pupil x with ⟨p, hp, rfl⟩ | hx
  · have np : p < 5 := by omega
    have kl := lc_kla hc np
    have t5 := hG.2.1.2.2.2.2 p hp
    have i5 := hc.2.1.2.2.2.2.1 p hp
    by_cases hy : 0 ≤ y ∧ y < nI (σ 3 0)
    · obtain ⟨c, hc1, rfl⟩ := pe_arg (by omega) hy.1 hy.2
      obtain ⟨M1, τ, f1, h1, v1⟩ := ls_isKnown hM O1 hG.2.2.1 hp hc1 (by omega)
      have fc := lc_hKnown hc O1 np hc1 (show σ 8 p ≤ 110000 by omega) (ls_G_okc hG hp hc1)
      have hR := ls_fin1 h1 hc v1 hG
      have hic := ls_isCard hM (nI c)
      rw [if_pos hy] at hic
      have X : ∀ {r}, (if (if ∀ s, s < σ 0 c → ls_kn (ls_at σ (480 * p + 4 * c + s)) (σ 8 p) then (1 : Int32) else 0) = 0 then f_X9_known_52 M else f_X9_known_48 M) = r → f_X9_known M (some n) (nI p) (nI c) = r := fun q => bx (pe_rc (lc_k0 hc)) (bx (lc_learnerAt hc hp) (iff_ (fun q => nomatch q) (bx (pe_rc kl) (bx (lc_handAt hc h120 np hc1) (iff_ (fun q => nomatch q) (iff_ (fun q => nomatch q) (bx (pfI kl i5.1) (bx (lc_r0 hc 0 1 (by decide)) (bx (lc_hrcd hc np hc1) (bx fc q))))))))))
      by_cases hk : ls_knc σ p c
      · rw [if_pos hk] at f1
        exact ⟨1, M1, X (iff_ (by rw [if_pos hk]; decide) rfl), bx (ls_isPupil_in M hp) (iff_ ne10 (bx (ls_rc hM) (bx hic (iff_ ne10 (bx (ls_rc hM) (b2x f1 (iff_ ne10 rfl))))))), hR⟩
      · rw [if_neg hk] at f1
        exact ⟨0, M1, X (ift (if_neg hk) rfl), bx (ls_isPupil_in M hp) (iff_ ne10 (bx (ls_rc hM) (bx hic (iff_ ne10 (bx (ls_rc hM) (b2x f1 (ift rfl rfl))))))), hR⟩
    · have hic := ls_isCard hM y
      rw [if_neg hy] at hic
      exact ⟨-1, M, bx (pe_rc (lc_k0 hc)) (bx (lc_learnerAt hc hp) (iff_ (fun q => nomatch q) (bx (pe_rc kl) (bx (lc_handOut hc np hy) (iff_ (fun q => nomatch q) (ift rfl rfl)))))), bx (ls_isPupil_in M hp) (iff_ ne10 (bx (ls_rc hM) (bx hic (ift rfl rfl)))), ls_no hM hc hG⟩
  · exact ⟨-1, M, bx (pe_rc (lc_k0 hc)) (bx (lc_learnerOut hc hx) (ift rfl rfl)), bx (ls_isPupil_out M hx) (ift rfl rfl), ls_no hM hc hG⟩
end
