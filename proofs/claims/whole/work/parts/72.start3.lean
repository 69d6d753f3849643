section
variable {n k : Nat} {σ τ υ : ls_S} {B M M1 : mm_M}
/-- alike in what counts, but for the row of a pupil -/
def ls_re (σ τ : ls_S) (p : Nat) : Prop := (∀ f, f ≠ 9 → f ≠ 10 → (f < 29 ∨ (34 < f ∧ f < 44)) → τ f = σ f) ∧ ∀ q, q ≠ p → q < 4 → τ 10 q = σ 10 q ∧ ∀ i, i < 480 → τ 9 (480 * q + i) = σ 9 (480 * q + i)
theorem ls_re_rf (σ : ls_S) (p : Nat) : ls_re σ σ p := ⟨fun _ _ _ _ => rfl, fun _ _ _ => ⟨rfl, fun _ _ => rfl⟩⟩
theorem ls_re_v {p : Nat} (h : ls_re σ τ p) (hv : ls_v τ υ) : ls_re σ υ p := by
  refine ⟨fun f a b c => (hv f (ls_nx_of (by omega) (by omega))).trans (h.1 f a b c), fun q a b => ?_⟩
  rw [hv 10 (ls_nx_of (by omega) (by omega)), hv 9 (ls_nx_of (by omega) (by omega))]
  exact h.2 q a b
theorem ls_re_9 {p i : Nat} (h : ls_re σ τ p) (hi : i < 480) (v : Nat) : ls_re σ (mm_u τ 9 (480 * p + i) v) p := by
  refine ⟨fun f a b c => ?_, fun q a b => ⟨(h.2 q a b).1, fun j hj => ?_⟩⟩
  · funext j
    rw [mm_u, if_neg (fun e => a e.1), h.1 f a b c]
  · rw [mm_u, if_neg (by omega)]
    exact (h.2 q a b).2 j hj
theorem ls_re_10 {p : Nat} (h : ls_re σ τ p) (v : Nat) : ls_re σ (mm_u τ 10 p v) p := by
  refine ⟨fun f a b c => ?_, fun q a b => ⟨?_, (h.2 q a b).2⟩⟩
  · funext j
    rw [mm_u, if_neg (fun e => b e.1), h.1 f a b c]
  · rw [mm_u, if_neg (by omega)]
    exact (h.2 q a b).1
theorem ls_re_46 {p i : Nat} (h : ls_re σ τ p) (v : Nat) : ls_re σ (mm_u τ 46 i v) p := by
  refine ⟨fun f a b c => ?_, fun q a b => h.2 q a b⟩
  funext j
  rw [mm_u, if_neg (by omega), h.1 f a b c]
theorem ls_re_at {p : Nat} (h : ls_re σ τ p) (q : Nat) : ls_at τ q = ls_at σ q := by
  unfold ls_at
  rw [h.1 13 (by omega) (by omega) (by omega), h.1 14 (by omega) (by omega) (by omega), h.1 15 (by omega) (by omega) (by omega), h.1 16 (by omega) (by omega) (by omega), h.1 17 (by omega) (by omega) (by omega)]
theorem ls_re_O1 {p : Nat} (h : ls_re σ τ p) (h1 : ls_O1 σ) : ls_O1 τ := by
  unfold ls_O1
  rw [h.1 0 (by omega) (by omega) (by omega), h.1 1 (by omega) (by omega) (by omega), h.1 2 (by omega) (by omega) (by omega), h.1 3 (by omega) (by omega) (by omega)]
  exact h1
theorem ls_re_O3 {p : Nat} (h : ls_re σ τ p) (h3 : ls_O3 σ) : ls_O3 τ := by
  intro q hq i hi
  rw [ls_re_at h, h.1 8 (by omega) (by omega) (by omega)]
  exact h3 q hq i hi
theorem ls_re_knc {p : Nat} (h : ls_re σ τ p) (c : Nat) : ls_knc τ p c ↔ ls_knc σ p c := by
  unfold ls_knc
  rw [h.1 8 (by omega) (by omega) (by omega), h.1 0 (by omega) (by omega) (by omega), show ls_at τ = ls_at σ from funext fun q => ls_re_at h q]
/-- parted: the row, and what doesn't count -/
theorem ls_re_part {p : Nat} (h : ls_re σ τ p) : ∃ υ, ls_rs σ υ p ∧ ls_e υ τ ∧ υ 8 p = σ 8 p ∧ υ 10 p = τ 10 p ∧ ∀ i, υ 9 i = τ 9 i := by
  refine ⟨fun f j => if f = 9 ∨ f = 10 then τ f j else σ f j, ⟨fun f _ b c => funext fun j => if_neg (by omega), fun q a b => ⟨if_neg (by omega), ?_, fun i hi => ?_⟩⟩, fun f hf => funext fun j => ?_, if_neg (by omega), if_pos (Or.inr rfl), fun i => if_pos (Or.inl rfl)⟩
  · exact (if_pos (Or.inr rfl)).trans (h.2 q a b).1
  · exact (if_pos (Or.inl rfl)).trans ((h.2 q a b).2 i hi)
  · show _ = if f = 9 ∨ f = 10 then τ f j else σ f j
    by_cases e : f = 9 ∨ f = 10
    · rw [if_pos e]
    · rw [if_neg e, h.1 f (by omega) (by omega) hf]
theorem ls_ix5 (p c s : Nat) : nI (480 * p) + 4 * nI c + nI s = nI (480 * p + 4 * c + s) := by
  rw [show 4 * nI c = nI (4 * c) from pk_mul 4 c, nI_add, nI_add]
theorem ls_leanedOn (h : ls_M n σ B M) (h1 : ls_O1 σ) (h3 : ls_O3 σ) {p c : Nat} (hp : p < 4) (hc : c < σ 3 0) (h8 : σ 8 p ≤ 200000) : ∃ M1 τ, f_X10_leanedOn M (some (n + 31)) (nI p) (nI c) = some (nI (ls_sm (fun j => ls_kk σ p (σ 1 (4 * c + j))) (σ 2 c)), M1) ∧ ls_M n τ B M1 ∧ ls_v σ τ := by
  have h120 := h1.1
  obtain ⟨l4, tg⟩ := h1.2.2 c hc
  obtain ⟨r, hr, M1, τ, rfl, hm, hv⟩ := pe_cnt (body := fun x : mm_M × Int32 × Int32 => f_X10_leanedOn_5 x.1 (some (n + 31)) (nI p) (nI c) x.2.1 x.2.2) (x := (M, 0, 0)) (fun i x => ∃ M1 τ, x = (M1, nI (ls_sm (fun j => ls_kk σ p (σ 1 (4 * c + j))) i), nI i) ∧ ls_M n τ B M1 ∧ ls_v σ τ) (fun r => ∃ M1 τ, r = (nI (ls_sm (fun j => ls_kk σ p (σ 1 (4 * c + j))) (σ 2 c)), M1) ∧ ls_M n τ B M1 ∧ ls_v σ τ) (σ 2 c) ⟨M, σ, rfl, h, ls_v_rf σ⟩ (by
      rintro i x hi ⟨M1, τ, rfl, hm, hv⟩
      have e2 : τ 2 c = σ 2 c := congrFun (hv 2 (ls_nx_of (by omega) (by omega))) c
      have e1 : τ 1 (4 * c + i) = σ 1 (4 * c + i) := congrFun (hv 1 (ls_nx_of (by omega) (by omega))) _
      have e3 : τ 3 0 = σ 3 0 := congrFun (hv 3 (ls_nx_of (by omega) (by omega))) 0
      have e8 : τ 8 p = σ 8 p := congrFun (hv 8 (ls_nx_of (by omega) (by omega))) p
      have ht := tg i hi
      obtain ⟨M2, τ2, f2, h2, v2⟩ := ls_isKnown hm (ls_v1 hv h1) (ls_v3 hv h3) (p := p) (c := σ 1 (4 * c + i)) hp (by rw [e3]; exact ht) (by omega)
      have hn : ∀ q, f_X10_leanedOn_41 M2 (some (n + 31)) (nI p) (nI c) (nI i) (nI (ls_sm (fun j => ls_kk σ p (σ 1 (4 * c + j))) i)) (nI q) = some (.inl (M2, nI (ls_sm (fun j => ls_kk σ p (σ 1 (4 * c + j))) i + q), nI (i + 1))) := fun q => by
        show some (Sum.inl (M2, nI (ls_sm (fun j => ls_kk σ p (σ 1 (4 * c + j))) i) + nI q, nI i + 1)) = _
        rw [nI_1, nI_add]
      refine ⟨(M2, nI (ls_sm (fun j => ls_kk σ p (σ 1 (4 * c + j))) i + ls_kk σ p (σ 1 (4 * c + i))), nI (i + 1)), bx (ls_fR hm 2 (by decide)) (bx (ls_aI hm 2 c (by decide) (show c < 120 by omega)) (iff_ (show ¬ nI (τ 2 c) ≤ nI i by rw [e2]; exact nI_ge hi (by omega)) (bx (ls_fR hm 1 (by decide)) (bx (a := nI (σ 1 (4 * c + i))) (by rw [ls_ix4, ← e1]; exact ls_aI hm 1 _ (by decide) (show 4 * c + i < 480 by omega)) (bx (ls_rc hm) (b2x f2 ?_)))))), M2, τ2, rfl, h2, ls_v_tr hv v2⟩
      by_cases hkn : ls_knc σ p (σ 1 (4 * c + i))
      · rw [show ls_kk σ p (σ 1 (4 * c + i)) = 1 from if_pos hkn]
        exact iff_ (by rw [if_pos ((ls_knc_v hv p _).mpr hkn)]; decide) (hn 1)
      · rw [show ls_kk σ p (σ 1 (4 * c + i)) = 0 from if_neg hkn]
        exact ift (if_neg (fun q => hkn ((ls_knc_v hv p _).mp q))) (hn 0)) (by
      rintro x ⟨M1, τ, rfl, hm, hv⟩
      have e2 : τ 2 c = σ 2 c := congrFun (hv 2 (ls_nx_of (by omega) (by omega))) c
      exact ⟨_, bx (ls_fR hm 2 (by decide)) (bx (ls_aI hm 2 c (by decide) (show c < 120 by omega)) (ift (show nI (τ 2 c) ≤ nI (σ 2 c) by rw [e2]; exact nI_le (Nat.le_refl _) (by omega)) (mpx rfl))), M1, τ, rfl, hm, hv⟩)
  exact ⟨M1, τ, hr, hm, hv⟩
theorem ls_pc_b (σ : ls_S) (p q : Nat) : ls_pc σ p q ≤ 1000 := by
  show ls_c0h _ _ ≤ 1000
  unfold ls_c0h
  split
  · omega
  · exact ls_F_le _
/-- a thing put in, in the model -/
theorem ls_put_in {p c m s : Nat} {r : Nat → Nat} (h : ls_M n τ B M) (hp : p < 4) (hre : ls_re σ τ p) (hm : m < 120) (hc : c < 120) (hs : s < 4) (hr : ∀ j, j < m → τ 9 (480 * p + j) = r j ∧ τ 46 j = ls_pc σ p (r j)) (h45 : τ 45 0 = ls_pc σ p (4 * c + s)) : ∃ M1 τ1, f_X10_start_62 M (some (n + 31)) (nI p) (nI m) (nI (480 * p)) (nI c) (nI s) = some (.inl (M1, nI (m + 1), nI (c + 1))) ∧ ls_M n τ1 B M1 ∧ ls_re σ τ1 p ∧ ∀ j, j < m + 1 → τ1 9 (480 * p + j) = ls_in r (4 * c + s) (ls_ip (fun i => ls_pc σ p (r i)) (ls_pc σ p (4 * c + s)) m) j ∧ τ1 46 j = ls_pc σ p (ls_in r (4 * c + s) (ls_ip (fun i => ls_pc σ p (r i)) (ls_pc σ p (4 * c + s)) m) j) := by
  obtain ⟨y, hy, M1, τ1, rfl, h1, h2, h3⟩ := pe_loop (body := fun y : mm_M × Int32 => f_X10_start_65 y.1 (some (n + 31)) (nI p) (nI m) (nI (480 * p)) (nI c) (nI s) y.2) (x := (M, nI m)) (fun i y => ∃ M1 τ1 a, y = (M1, nI a) ∧ a + i = m ∧ ls_M n τ1 B M1 ∧ ls_re σ τ1 p ∧ τ1 45 0 = ls_pc σ p (4 * c + s) ∧ (∀ j, j < a → τ1 9 (480 * p + j) = r j ∧ τ1 46 j = ls_pc σ p (r j)) ∧ (∀ j, a < j → j ≤ m → τ1 9 (480 * p + j) = r (j - 1) ∧ τ1 46 j = ls_pc σ p (r (j - 1))) ∧ ls_ip (fun i => ls_pc σ p (r i)) (ls_pc σ p (4 * c + s)) a = ls_ip (fun i => ls_pc σ p (r i)) (ls_pc σ p (4 * c + s)) m) (fun y => ∃ M1 τ1, y = .inl (M1, nI (m + 1), nI (c + 1)) ∧ ls_M n τ1 B M1 ∧ ls_re σ τ1 p ∧ ∀ j, j < m + 1 → τ1 9 (480 * p + j) = ls_in r (4 * c + s) (ls_ip (fun i => ls_pc σ p (r i)) (ls_pc σ p (4 * c + s)) m) j ∧ τ1 46 j = ls_pc σ p (ls_in r (4 * c + s) (ls_ip (fun i => ls_pc σ p (r i)) (ls_pc σ p (4 * c + s)) m) j)) m ⟨M, τ, m, rfl, by omega, h, hre, h45, hr, fun j a b => absurd b (by omega), rfl⟩ (by
      rintro i y hi ⟨M1, τ1, a, rfl, ha, hm1, hre1, h451, hlo, hhi, hip⟩
      have hx := ls_pc_b σ p (4 * c + s)
      have fin : ls_ip (fun i => ls_pc σ p (r i)) (ls_pc σ p (4 * c + s)) a = a → ∃ z, f_X10_start_128 M1 (some (n + 31)) (nI p) (nI m) (nI (480 * p)) (nI c) (nI s) (nI a) = some z ∧ ∃ M1 τ1, z = .inl (M1, nI (m + 1), nI (c + 1)) ∧ ls_M n τ1 B M1 ∧ ls_re σ τ1 p ∧ ∀ j, j < m + 1 → τ1 9 (480 * p + j) = ls_in r (4 * c + s) (ls_ip (fun i => ls_pc σ p (r i)) (ls_pc σ p (4 * c + s)) m) j ∧ τ1 46 j = ls_pc σ p (ls_in r (4 * c + s) (ls_ip (fun i => ls_pc σ p (r i)) (ls_pc σ p (4 * c + s)) m) j) := fun hstop => by
        rw [← hip, hstop]
        obtain ⟨M2, e2, h2⟩ := ls_tI hm1 46 a (ls_pc σ p (4 * c + s)) (by decide) rfl (show a < 120 by omega)
        obtain ⟨M3, e3, h3⟩ := ls_tI h2 9 (480 * p + a) (4 * c + s) (by decide) rfl (show 480 * p + a < 1920 by omega)
        refine ⟨_, bx (ls_fR hm1 46 (by decide)) (bx (a := nI (ls_pc σ p (4 * c + s))) (by rw [← h451]; exact ls_fI hm1 45 (by decide)) (bx e2 (bx (ls_fR h2 9 (by decide)) (bx (a := M3) (by rw [nI_add, ls_ix4]; exact e3) rfl)))), M3, _, ?_, h3, ls_re_9 (ls_re_46 hre1 _) (by omega) _, fun j hj => ?_⟩
        · rw [nI_1, nI_1]
        · have ej9 : mm_u (mm_u τ1 46 a (ls_pc σ p (4 * c + s))) 9 (480 * p + a) (4 * c + s) 9 (480 * p + j) = if j = a then 4 * c + s else τ1 9 (480 * p + j) := by
            rw [mm_u]
            by_cases e : j = a
            · rw [if_pos ⟨rfl, by rw [e]⟩, if_pos e]
            · rw [if_neg (by omega), if_neg e, mm_u, if_neg (by omega)]
          have ej46 : mm_u (mm_u τ1 46 a (ls_pc σ p (4 * c + s))) 9 (480 * p + a) (4 * c + s) 46 j = if j = a then ls_pc σ p (4 * c + s) else τ1 46 j := by
            rw [mm_u, if_neg (by omega), mm_u]
            by_cases e : j = a
            · rw [if_pos ⟨rfl, e⟩, if_pos e]
            · rw [if_neg (fun z => e z.2), if_neg e]
          rw [ej9, ej46]
          rcases Nat.lt_trichotomy j a with h | h | h
          · rw [if_neg (by omega), if_neg (by omega), ls_in_lt _ _ h]
            exact hlo j h
          · rw [if_pos h, if_pos h, h, ls_in_at]
            exact ⟨rfl, rfl⟩
          · rw [if_neg (by omega), if_neg (by omega), ls_in_gt _ _ h]
            exact hhi j h (by omega)
      cases a with
      | zero =>
        right
        obtain ⟨z, hz, hq⟩ := fin rfl
        exact ⟨z, ift (show nI 0 ≤ 0 by decide) (mpx hz), hq⟩
      | succ a =>
        have hra := ls_pc_b σ p (r a)
        have hla := hlo a (by omega)
        have es : nI (a + 1) - 1 = nI a := nI_pred a
        have X : ∀ {z}, (if nI (ls_pc σ p (r a)) ≤ nI (ls_pc σ p (4 * c + s)) then mm_mp (f_X10_start_128 M1 (some (n + 31)) (nI p) (nI m) (nI (480 * p)) (nI c) (nI s) (nI (a + 1))) else f_X10_start_86 M1 (some (n + 31)) (nI p) (nI m) (nI (480 * p)) (nI c) (nI s) (nI (a + 1))) = z → f_X10_start_65 M1 (some (n + 31)) (nI p) (nI m) (nI (480 * p)) (nI c) (nI s) (nI (a + 1)) = z := fun q => iff_ (nI_nle (by omega) (by omega)) (bx (ls_fR hm1 46 (by decide)) (bx (a := nI (ls_pc σ p (r a))) (by rw [es, ← hla.2]; exact ls_aI hm1 46 a (by decide) (show a < 120 by omega)) (bx (a := nI (ls_pc σ p (4 * c + s))) (by rw [← h451]; exact ls_fI hm1 45 (by decide)) q)))
        have hstep : ls_ip (fun i => ls_pc σ p (r i)) (ls_pc σ p (4 * c + s)) (a + 1) = if ls_pc σ p (4 * c + s) < ls_pc σ p (r a) then ls_ip (fun i => ls_pc σ p (r i)) (ls_pc σ p (4 * c + s)) a else a + 1 := rfl
        by_cases hlt : ls_pc σ p (4 * c + s) < ls_pc σ p (r a)
        · left
          rw [if_pos hlt] at hstep
          obtain ⟨M2, e2, h2⟩ := ls_tI hm1 46 (a + 1) (ls_pc σ p (r a)) (by decide) rfl (show a + 1 < 120 by omega)
          obtain ⟨M3, e3, h3⟩ := ls_tI h2 9 (480 * p + (a + 1)) (r a) (by decide) rfl (show 480 * p + (a + 1) < 1920 by omega)
          refine ⟨(M3, nI a), X (iff_ (nI_ge hlt (by omega)) (bx (ls_fR hm1 46 (by decide)) (bx (ls_fR hm1 46 (by decide)) (bx (a := nI (ls_pc σ p (r a))) (by rw [es, ← hla.2]; exact ls_aI hm1 46 a (by decide) (show a < 120 by omega)) (bx e2 (bx (ls_fR h2 9 (by decide)) (bx (ls_fR h2 9 (by decide)) (bx (a := nI (r a)) ?_ (bx (a := M3) (by rw [nI_add]; exact e3) ?_))))))))), ⟨M3, _, a, rfl, by omega, h3, ls_re_9 (ls_re_46 hre1 _) (by omega) _, h451, fun j hj => ?_, fun j h1 h2 => ?_, by rw [← hip, hstep]⟩, by omega⟩
          · rw [nI_add, show nI (480 * p + (a + 1)) - 1 = nI (480 * p + a) from nI_pred (480 * p + a)]
            have := ls_aI h2 9 (480 * p + a) (by decide) (show 480 * p + a < 1920 by omega)
            rw [show mm_u τ1 46 (a + 1) (ls_pc σ p (r a)) 9 (480 * p + a) = r a from hla.1] at this
            exact this
          · show some (Sum.inl (M3, nI (a + 1) + (-1))) = _
            rw [pk_m1]
          · rw [mm_u, if_neg (by omega), mm_u, if_neg (by omega), mm_u, if_neg (by omega), mm_u, if_neg (by omega)]
            exact hlo j (by omega)
          · have ej9 : mm_u (mm_u τ1 46 (a + 1) (ls_pc σ p (r a))) 9 (480 * p + (a + 1)) (r a) 9 (480 * p + j) = if j = a + 1 then r a else τ1 9 (480 * p + j) := by
              rw [mm_u]
              by_cases e : j = a + 1
              · rw [if_pos ⟨rfl, by rw [e]⟩, if_pos e]
              · rw [if_neg (by omega), if_neg e, mm_u, if_neg (by omega)]
            have ej46 : mm_u (mm_u τ1 46 (a + 1) (ls_pc σ p (r a))) 9 (480 * p + (a + 1)) (r a) 46 j = if j = a + 1 then ls_pc σ p (r a) else τ1 46 j := by
              rw [mm_u, if_neg (by omega), mm_u]
              by_cases e : j = a + 1
              · rw [if_pos ⟨rfl, e⟩, if_pos e]
              · rw [if_neg (fun z => e z.2), if_neg e]
            rw [ej9, ej46]
            by_cases e : j = a + 1
            · rw [if_pos e, if_pos e, e]
              exact ⟨rfl, rfl⟩
            · rw [if_neg e, if_neg e]
              exact hhi j (by omega) h2
        · right
          rw [if_neg hlt] at hstep
          obtain ⟨z, hz, hq⟩ := fin hstep
          exact ⟨z, X (ift (nI_le (by omega) (by omega)) (mpx hz)), hq⟩)
  exact ⟨M1, τ1, hy, h1, h2, h3⟩
end
