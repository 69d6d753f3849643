-- what a rule makes of the log: rule 3 is that of when it was given
abbrev ls_er (σ : ls_S) (ρ i : Nat) : Nat := if ρ = 3 then σ 21 i else ρ
abbrev ls_eb (σ : ls_S) (ρ i : Nat) : Nat := if ρ = 3 then σ 22 i else σ 5 (σ 20 i)
def ls_z0 : ls_V := (0, 2500, 0, 0, 0)
def ls_rp (σ : ls_S) (ρ a : Nat) : Nat → ls_V
  | 0 => ls_z0
  | i + 1 => if σ 18 i = a then ls_aB (ls_er σ ρ i) (ls_eb σ ρ i) (σ 20 i) (σ 19 i) (ls_rp σ ρ a i) else ls_rp σ ρ a i
/-- what one answer adds to the surprise -/
def ls_su (σ : ls_S) (ρ a i : Nat) : Nat := if σ 18 i = a ∧ 0 < (ls_rp σ ρ a i).1 then (if σ 20 i = 0 then ls_ch (ls_rp σ ρ a i) (σ 19 i) else 1000 - ls_ch (ls_rp σ ρ a i) (σ 19 i)) else 0
/-- the same, of a pupil -/
def ls_sp (σ : ls_S) (ρ p i : Nat) : Nat := if σ 18 i / 480 = p then ls_su σ ρ (σ 18 i) i else 0
theorem ls_su_le (σ : ls_S) (ρ a i : Nat) : ls_su σ ρ a i ≤ 1000 := by
  have := ls_F_le (16000 * (σ 19 i + 1 - (ls_rp σ ρ a i).2.2.2.1) / (ls_rp σ ρ a i).1)
  unfold ls_su ls_ch
  split
  · split <;> omega
  · omega
theorem ls_sp_le (σ : ls_S) (ρ p i : Nat) : ls_sp σ ρ p i ≤ 1000 := by
  unfold ls_sp
  split
  · exact ls_su_le _ _ _ _
  · omega
theorem ls_sm_b {f : Nat → Nat} {b : Nat} (h : ∀ i, f i ≤ b) : ∀ N, ls_sm f N ≤ b * N
  | 0 => Nat.zero_le _
  | N + 1 => by
    have a := ls_sm_b h N
    have := h N
    show ls_sm f N + f N ≤ b * (N + 1)
    rw [Nat.mul_succ]
    omega
theorem ls_sm_add (f g : Nat → Nat) : ∀ N, ls_sm (fun q => f q + g q) N = ls_sm f N + ls_sm g N
  | 0 => rfl
  | N + 1 => by
    have := ls_sm_add f g N
    show ls_sm (fun q => f q + g q) N + (f N + g N) = ls_sm f N + f N + (ls_sm g N + g N)
    omega
theorem ls_sm_0 {f : Nat → Nat} : ∀ {N : Nat}, (∀ q, q < N → f q = 0) → ls_sm f N = 0
  | 0, _ => rfl
  | N + 1, h => by
    show ls_sm f N + f N = 0
    rw [ls_sm_0 (N := N) (fun q hq => h q (by omega)), h N (by omega)]
theorem ls_sm_1 {f : Nat → Nat} {t : Nat} : ∀ {N : Nat}, t < N → (∀ q, q < N → q ≠ t → f q = 0) → ls_sm f N = f t
  | 0, h, _ => absurd h (Nat.not_lt_zero t)
  | N + 1, h, hz => by
    show ls_sm f N + f N = f t
    by_cases e : t = N
    · subst e
      rw [ls_sm_0 (N := t) (fun q hq => hz q (by omega) (by omega))]
      omega
    · rw [ls_sm_1 (N := N) (by omega) (fun q hq => hz q (by omega)), hz N (by omega) (by omega), Nat.add_zero]
theorem ls_su_ne {σ : ls_S} {ρ a i : Nat} (h : σ 18 i ≠ a) : ls_su σ ρ a i = 0 := if_neg (fun q => h q.1)
/-- side by side, or one behind the other -/
theorem ls_su_ex (σ : ls_S) (ρ p : Nat) : ∀ k, ls_sm (fun q => ls_sm (ls_su σ ρ (480 * p + q)) k) 480 = ls_sm (ls_sp σ ρ p) k
  | 0 => ls_sm_0 (fun _ _ => rfl)
  | k + 1 => by
    have ih := ls_su_ex σ ρ p k
    show ls_sm (fun q => ls_sm (ls_su σ ρ (480 * p + q)) k + ls_su σ ρ (480 * p + q) k) 480 = ls_sm (ls_sp σ ρ p) k + ls_sp σ ρ p k
    rw [ls_sm_add (fun q => ls_sm (ls_su σ ρ (480 * p + q)) k) (fun q => ls_su σ ρ (480 * p + q) k), ih]
    refine congrArg (fun z => ls_sm (ls_sp σ ρ p) k + z) ?_
    unfold ls_sp
    by_cases e : σ 18 k / 480 = p
    · rw [if_pos e, ls_sm_1 (f := fun q => ls_su σ ρ (480 * p + q) k) (t := σ 18 k % 480) (by omega) (fun q hq hne => ls_su_ne (by omega))]
      show ls_su σ ρ (480 * p + σ 18 k % 480) k = _
      rw [show 480 * p + σ 18 k % 480 = σ 18 k by omega]
    · rw [if_neg e]
      exact ls_sm_0 (fun q hq => ls_su_ne (by omega))
section
variable {n k : Nat} {σ τ υ : ls_S} {B M M1 : mm_M}
theorem ls_er_b (h : ls_O5 σ k) {ρ i : Nat} (hρ : ρ ≤ 3) (hi : i < σ 28 0) (h2 : ls_O2 σ) : ls_er σ ρ i ≤ 2 ∧ ls_eb σ ρ i ≤ 100000 := by
  obtain ⟨a1, a2, a3, a4, a5, a6, -⟩ := h.2 i hi
  unfold ls_er ls_eb
  split
  · exact ⟨a5, a6⟩
  · exact ⟨by omega, h2.2.1 _ (by omega)⟩
theorem ls_rp_ok (h : ls_O5 σ k) (hk : k ≤ 512) {ρ a : Nat} : ∀ i, i ≤ σ 28 0 → (ls_rp σ ρ a i).2.2.2.2 ≤ i ∧ ∀ d, (∀ j, j < i → σ 18 j = a → σ 19 j ≤ d) → ls_ok (ls_rp σ ρ a i) d
  | 0, _ => ⟨Nat.le_refl _, fun d _ => ⟨Or.inl rfl, by show 0 ≤ 4000000; omega, by show 1300 ≤ 2500; omega, by show 2500 ≤ 3500; omega, by show 0 ≤ 9; omega, by show 0 ≤ d + 1; omega, by show 0 ≤ 100000; omega⟩⟩
  | i + 1, hi => by
    obtain ⟨ih1, ih2⟩ := ls_rp_ok h hk (ρ := ρ) (a := a) i (by omega)
    obtain ⟨a1, a2, a3, a4, a5, a6, a7, a8, a9⟩ := h.2 i (by omega)
    have h28 := h.1
    unfold ls_rp
    by_cases e : σ 18 i = a
    · rw [if_pos e]
      have ok := ih2 (σ 19 i) (fun j hj hja => a9 j hj (by rw [hja, e]))
      have hok := ls_aB_ok (r := ls_er σ ρ i) (b := ls_eb σ ρ i) (a := σ 20 i) ok (by omega)
      refine ⟨?_, fun d hd => ls_ok_up hok.1 (hd i (by omega) e)⟩
      have : (ls_aB (ls_er σ ρ i) (ls_eb σ ρ i) (σ 20 i) (σ 19 i) (ls_rp σ ρ a i)).2.2.2.2 = (ls_rp σ ρ a i).2.2.2.2 + if σ 20 i = 0 then 1 else 0 := by
        unfold ls_aB
        split
        · rfl
        · split
          · rfl
          · split <;> rfl
      rw [this]
      split <;> omega
    · rw [if_neg e]
      exact ⟨by omega, fun d hd => ih2 d (fun j hj => hd j (by omega))⟩
theorem ls_rp_on (h : ls_O5 σ k) (hk : k ≤ 512) {ρ a i : Nat} (hi : i < σ 28 0) (ha : σ 18 i = a) : ls_ok (ls_rp σ ρ a i) (σ 19 i) := by
  obtain ⟨a1, a2, a3, a4, a5, a6, a7, a8, a9⟩ := h.2 i hi
  exact (ls_rp_ok h hk (ρ := ρ) (a := a) i (by omega)).2 _ (fun j hj hja => a9 j hj (by rw [hja, ha]))
theorem ls_day_b (h : ls_O5 σ k) (h2 : ls_O2 σ) {i : Nat} (hi : i < σ 28 0) : σ 19 i ≤ 100000 := by
  obtain ⟨a1, a2, a3, -⟩ := h.2 i hi
  exact Nat.le_trans a3 (h2.2.2.2.2 _ (by omega))
theorem ls_at_pt (σ : ls_S) (Q : Nat) (v : ls_V) (q : Nat) : ls_at (ls_pt σ Q v) q = if q = Q then v else ls_at σ q := by
  by_cases e : q = Q
  · subst e
    rw [if_pos rfl]
    simp [ls_at, ls_pt, mm_u]
  · rw [if_neg e]
    simp [ls_at, ls_pt, mm_u, e]
theorem ls_s_pt (h : ls_s σ τ) {Q : Nat} (hQ : 1920 ≤ Q) (v : ls_V) : ls_s σ (ls_pt τ Q v) := ls_s_u (ls_s_u (ls_s_u (ls_s_u (ls_s_u h _ (by omega)) _ (by omega)) _ (by omega)) _ (by omega)) _ (by omega)
theorem ls_s_f (h : ls_s σ τ) {f : Nat} (hf : f < 11 ∨ 17 < f) : τ f = σ f := funext fun j => h f j (by omega)
theorem ls_s_at (h : ls_s σ τ) {q : Nat} (hq : q < 1920) : ls_at τ q = ls_at σ q := by
  unfold ls_at
  rw [h 13 q (by omega), h 14 q (by omega), h 15 q (by omega), h 16 q (by omega), h 17 q (by omega)]
theorem ls_s_O1 (h : ls_s σ τ) (h1 : ls_O1 σ) : ls_O1 τ := by
  unfold ls_O1
  rw [ls_s_f h (f := 0) (by omega), ls_s_f h (f := 1) (by omega), ls_s_f h (f := 2) (by omega), ls_s_f h (f := 3) (by omega)]
  exact h1
/-- the class, its shadow's memories being m -/
def lc_sh (n : Nat) (σ : ls_S) (B M : mm_M) (m : Nat → ls_V) : Prop := ∃ τ, ls_s σ τ ∧ lc n τ B M ∧ ∀ c, c < σ 3 0 → ∀ s, s < σ 0 c → ls_at τ (480 * 4 + 4 * c + s) = m (4 * c + s)
theorem lc_sh_eq {m m2 : Nat → ls_V} (h : lc_sh n σ B M m) (e : ∀ c, c < σ 3 0 → ∀ s, s < σ 0 c → m2 (4 * c + s) = m (4 * c + s)) : lc_sh n σ B M m2 := by
  obtain ⟨τ, a, b, d⟩ := h
  exact ⟨τ, a, b, fun c hc s hs => (d c hc s hs).trans (e c hc s hs).symm⟩
theorem lc_sh_step {m : Nat → ls_V} {τ : ls_S} (hs : ls_s σ τ) (hl : lc n τ B M) (hm : ∀ c, c < σ 3 0 → ∀ s, s < σ 0 c → ls_at τ (480 * 4 + 4 * c + s) = m (4 * c + s)) (h1 : ls_O1 σ) {c s : Nat} (hc : c < σ 3 0) (hs1 : s < σ 0 c) {v : ls_V} (hd : lc_df M M1 (lc_mu n M 4 c s)) (ha : lc_at M1 (lc_mu n M 4 c s) v) : lc_sh n σ B M1 (fun q => if q = 4 * c + s then v else m q) := by
  have e3 : τ 3 0 = σ 3 0 := by rw [ls_s_f hs (f := 3) (by omega)]
  have e0 : τ 0 = σ 0 := ls_s_f hs (by omega)
  have h120 := h1.1
  have h4 := (h1.2.1 c hc).2
  refine ⟨_, ls_s_pt hs (Q := 480 * 4 + 4 * c + s) (by omega) v, lc_pt_of hl (ls_s_O1 hs h1) (p := 4) (by omega) (by rw [e3]; exact hc) (by rw [e0]; exact hs1) hd ha, fun c2 hc2 s2 hs2 => ?_⟩
  rw [ls_at_pt]
  have h42 := (h1.2.1 c2 hc2).2
  show _ = if 4 * c2 + s2 = 4 * c + s then v else m (4 * c2 + s2)
  by_cases e : 4 * c2 + s2 = 4 * c + s
  · rw [if_pos e, if_pos (by omega)]
  · rw [if_neg e, if_neg (by omega)]
    exact hm c2 hc2 s2 hs2
theorem cl_handFA {m : Nat → ls_V} (h : lc_sh n σ B M m) (h1 : ls_O1 σ) {c : Nat} (hc : c < σ 3 0) : ∃ M1 m1, f_X5_forgetAll M (some (lc_hd n M 4 c)) = some M1 ∧ lc_sh n σ B M1 m1 ∧ lc_sk M M1 ∧ (∀ s, s < σ 0 c → m1 (4 * c + s) = ls_z0) ∧ ∀ q, q < 4 * c → m1 q = m q := by
  have h4 := (h1.2.1 c hc).2
  have h120 := h1.1
  obtain ⟨M1, hr, hQ⟩ := pe_cnt (body := fun x : mm_M × Int32 => f_X5_forgetAll_2 x.1 (some (lc_hd n M 4 c)) x.2) (x := (M, 0))
    (fun i x => ∃ M1 m1, x = (M1, nI i) ∧ lc_sh n σ B M1 m1 ∧ lc_sk M M1 ∧ (∀ s, s < i → m1 (4 * c + s) = ls_z0) ∧ ∀ q, q < 4 * c → m1 q = m q)
    (fun M1 => ∃ m1, lc_sh n σ B M1 m1 ∧ lc_sk M M1 ∧ (∀ s, s < σ 0 c → m1 (4 * c + s) = ls_z0) ∧ ∀ q, q < 4 * c → m1 q = m q) (σ 0 c) ⟨M, m, rfl, h, lc_sk_rf M, fun s hs => absurd hs (Nat.not_lt_zero s), fun _ _ => rfl⟩ (by
      rintro i x hi ⟨M1, m1, rfl, ⟨τ, hs, hl, hm⟩, hsk, hz, ho⟩
      have e3 : τ 3 0 = σ 3 0 := by rw [ls_s_f hs (f := 3) (by omega)]
      have e0 : τ 0 = σ 0 := ls_s_f hs (by omega)
      have hc' : c < τ 3 0 := by rw [e3]; exact hc
      have hi' : i < τ 0 c := by rw [e0]; exact hi
      obtain ⟨M2, f2, d2, a2⟩ := lc_forget (lc_at_of hl (p := 4) (by omega) hc' hi')
      rw [← lc_sk_hd hsk]
      refine ⟨(M2, nI (i + 1)), bx (lc_hR hl (by omega) hc') (bx (lc_hl hl (by omega) hc') (iff_ (show ¬ nI (τ 0 c) ≤ nI i by rw [e0]; exact nI_ge hi (by omega)) (bx (lc_hR hl (by omega) hc') (bx (lc_ha hl (by omega) hc' hi' (by rw [e0]; exact h4)) (bx (lc_hrc hl (by omega) hc' hi') (bx f2 ?_)))))), M2, _, rfl, lc_sh_step hs hl hm h1 hc hi d2 a2, lc_sk_tr hsk (lc_sk_df d2), fun s hs2 => ?_, fun q hq => ?_⟩
      · show some (Sum.inl (M2, nI i + 1)) = _
        rw [nI_1]
      · show (if 4 * c + s = 4 * c + i then ((0, 2500, 0, 0, 0) : ls_V) else m1 (4 * c + s)) = ls_z0
        by_cases e : s = i
        · rw [if_pos (by omega)]; rfl
        · rw [if_neg (by omega)]
          exact hz s (by omega)
      · show (if q = 4 * c + i then ((0, 2500, 0, 0, 0) : ls_V) else m1 q) = m q
        rw [if_neg (by omega)]
        exact ho q hq) (by
      rintro x ⟨M1, m1, rfl, ⟨τ, hs, hl, hm⟩, hsk, hz, ho⟩
      have e3 : τ 3 0 = σ 3 0 := by rw [ls_s_f hs (f := 3) (by omega)]
      have e0 : τ 0 = σ 0 := ls_s_f hs (by omega)
      have hc' : c < τ 3 0 := by rw [e3]; exact hc
      rw [← lc_sk_hd hsk]
      exact ⟨M1, bx (lc_hR hl (by omega) hc') (bx (lc_hl hl (by omega) hc') (ift (show nI (τ 0 c) ≤ nI (σ 0 c) by rw [e0]; exact nI_le (Nat.le_refl _) (by omega)) (mpx rfl))), m1, ⟨τ, hs, hl, hm⟩, hsk, hz, ho⟩)
  obtain ⟨m1, a, b, c1, d⟩ := hQ
  exact ⟨M1, m1, hr, a, b, c1, d⟩
theorem cl_forgetAll {m : Nat → ls_V} (h : lc_sh n σ B M m) (h1 : ls_O1 σ) : ∃ M1, f_X6_forgetAll M (some (n + 8)) = some M1 ∧ lc_sh n σ B M1 (fun _ => ls_z0) ∧ lc_sk M M1 := by
  have h120 := h1.1
  refine pe_cnt (body := fun x : mm_M × Int32 => f_X6_forgetAll_2 x.1 (some (n + 8)) x.2) (x := (M, 0))
    (fun i x => ∃ M1 m1, x = (M1, nI i) ∧ lc_sh n σ B M1 m1 ∧ lc_sk M M1 ∧ ∀ c, c < i → ∀ s, s < σ 0 c → m1 (4 * c + s) = ls_z0)
    (fun M1 => lc_sh n σ B M1 (fun _ => ls_z0) ∧ lc_sk M M1) (σ 3 0) ⟨M, m, rfl, h, lc_sk_rf M, fun c hc => absurd hc (Nat.not_lt_zero c)⟩ ?_ ?_
  · rintro i x hi ⟨M1, m1, rfl, hsh, hsk, hz⟩
    obtain ⟨M2, m2, f2, h2, s2, z2, o2⟩ := cl_handFA hsh h1 hi
    obtain ⟨τ, hs, hl, hm⟩ := hsh
    have e3 : τ 3 0 = σ 3 0 := by rw [ls_s_f hs (f := 3) (by omega)]
    have hi' : i < τ 3 0 := by rw [e3]; exact hi
    refine ⟨(M2, nI (i + 1)), bx (lc_lR hl (p := 4) (by omega)) (bx (lc_lrc hl (p := 4) (by omega)) (bx (lc_lsz hl (p := 4) (by omega)) (iff_ (show ¬ nI (τ 3 0) ≤ nI i by rw [e3]; exact nI_ge hi (by omega)) (bx (lc_lR hl (p := 4) (by omega)) (bx (lc_lrc hl (p := 4) (by omega)) (bx (lc_lget hl (by rw [e3]; exact h120) (p := 4) (by omega) hi') (bx (lc_hcc hl (by omega) hi') (bx (lc_hrcd hl (by omega) hi') (bx f2 ?_))))))))), M2, m2, rfl, h2, lc_sk_tr hsk s2, fun c hc s hs2 => ?_⟩
    · show some (Sum.inl (M2, nI i + 1)) = _
      rw [nI_1]
    · by_cases e : c = i
      · subst e; exact z2 s hs2
      · have h4 := (h1.2.1 c (by omega)).2
        rw [o2 _ (by omega)]
        exact hz c (by omega) s hs2
  · rintro x ⟨M1, m1, rfl, hsh, hsk, hz⟩
    have hsh2 := lc_sh_eq (m2 := fun _ => ls_z0) hsh (fun c hc s hs => (hz c hc s hs).symm)
    obtain ⟨τ, hs, hl, hm⟩ := hsh
    have e3 : τ 3 0 = σ 3 0 := by rw [ls_s_f hs (f := 3) (by omega)]
    exact ⟨M1, bx (lc_lR hl (p := 4) (by omega)) (bx (lc_lrc hl (p := 4) (by omega)) (bx (lc_lsz hl (p := 4) (by omega)) (ift (show nI (τ 3 0) ≤ nI (σ 3 0) by rw [e3]; exact nI_le (Nat.le_refl _) (by omega)) (mpx rfl)))), hsh2, hsk⟩
theorem cl_retell {m : Nat → ls_V} (h : lc_sh n σ B M m) (hG : ls_G k σ) (hk : k ≤ 512) {p ρ : Nat} (hp : p < 4) (hρ : ρ ≤ 3) {z : Int32} (hz : z = nI ρ) : ∃ M1, f_X9_retell M (some n) (nI p) z = some (lN (ls_sm (ls_sp σ ρ p) (σ 28 0)), M1) ∧ lc_sh n σ B M1 (fun q => ls_rp σ ρ (480 * p + q) (σ 28 0)) ∧ lc_sk M M1 := by
  have h1 := hG.1
  have h2 := hG.2.1
  have h5 := hG.2.2.2.2.1
  have h120 := h1.1
  have h28 := h5.1
  obtain ⟨M0, f0, s0, k0⟩ := cl_forgetAll h h1
  obtain ⟨y, hy, M1, rfl, hsh, hsk⟩ := pe_cnt (body := fun x : mm_M × Int64 × Int32 => f_X9_retell_12 x.1 (some n) (nI p) z x.2.1 x.2.2) (x := (M0, 0, 0))
    (fun i x => ∃ M1, x = (M1, lN (ls_sm (ls_sp σ ρ p) i), nI i) ∧ lc_sh n σ B M1 (fun q => ls_rp σ ρ (480 * p + q) i) ∧ lc_sk M M1)
    (fun y => ∃ M1, y = (lN (ls_sm (ls_sp σ ρ p) (σ 28 0)), M1) ∧ lc_sh n σ B M1 (fun q => ls_rp σ ρ (480 * p + q) (σ 28 0)) ∧ lc_sk M M1) (σ 28 0) ⟨M0, rfl, s0, k0⟩ (by
      rintro i x hi ⟨M1, rfl, hsh, hsk⟩
      obtain ⟨τ, hs, hl, hm⟩ := id hsh
      obtain ⟨a1, a2, a3, a4, a5, a6, a7, a8, a9⟩ := h5.2 i hi
      have e28 : τ 28 0 = σ 28 0 := by rw [ls_s_f hs (f := 28) (by omega)]
      have e3 : τ 3 0 = σ 3 0 := by rw [ls_s_f hs (f := 3) (by omega)]
      have e0 : τ 0 = σ 0 := ls_s_f hs (by omega)
      have O1 := ls_s_O1 hs h1
      have hi' : i < τ 28 0 := by rw [e28]; exact hi
      obtain ⟨⟨i0, i1, i2, i3, i4, i5⟩, -⟩ := hl.2.1.2.2.2.2.2.2.2.2.1 i hi'
      rw [ls_s_f hs (f := 18) (by omega)] at i0 i1
      rw [ls_s_f hs (f := 19) (by omega)] at i2
      rw [ls_s_f hs (f := 20) (by omega)] at i3
      rw [ls_s_f hs (f := 21) (by omega)] at i4
      rw [ls_s_f hs (f := 22) (by omega)] at i5
      have ke := (hl.1.2.2.2.2.2.2.2 i hi').1
      have hc1 : σ 18 i % 480 / 4 < σ 3 0 := a2.1
      have hs1 : σ 18 i % 480 % 4 < σ 0 (σ 18 i % 480 / 4) := a2.2
      have hc1' : σ 18 i % 480 / 4 < τ 3 0 := by rw [e3]; exact hc1
      have hs1' : σ 18 i % 480 % 4 < τ 0 (σ 18 i % 480 / 4) := by rw [e0]; exact hs1
      have hma := lc_memAt hl O1 (p := 4) (by omega) hc1' hs1'
      rw [show 4 * (σ 18 i % 480 / 4) + σ 18 i % 480 % 4 = σ 18 i % 480 by omega] at hma
      have hmv := hm _ hc1 _ hs1
      have hma2 := lc_at_of hl (p := 4) (by omega) hc1' hs1'
      rw [hmv] at hma2
      have hstep : ∀ (w : ls_V) (M2 : mm_M), lc_df M1 M2 (lc_mu n M1 4 (σ 18 i % 480 / 4) (σ 18 i % 480 % 4)) → lc_at M2 (lc_mu n M1 4 (σ 18 i % 480 / 4) (σ 18 i % 480 % 4)) w → lc_sh n σ B M2 (fun q => if q = 4 * (σ 18 i % 480 / 4) + σ 18 i % 480 % 4 then w else ls_rp σ ρ (480 * p + q) i) := fun w M2 d a => lc_sh_step hs hl hm h1 hc1 hs1 d a
      generalize lc_mu n M1 4 (σ 18 i % 480 / 4) (σ 18 i % 480 % 4) = μ at *
      have hma2 : lc_at M1 μ (ls_rp σ ρ (480 * p + (4 * (σ 18 i % 480 / 4) + σ 18 i % 480 % 4)) i) := hma2
      rw [show 4 * (σ 18 i % 480 / 4) + σ 18 i % 480 % 4 = σ 18 i % 480 by omega] at hma2
      have X : ∀ {w}, (if nI (σ 18 i / 480) = nI p then f_X9_retell_61 M1 (some n) (nI p) z (lN (ls_sm (ls_sp σ ρ p) i)) (nI i) (some (lc_en n M1 i)) (some μ) else f_X9_retell_123 M1 (some n) (nI p) z (lN (ls_sm (ls_sp σ ρ p) i)) (nI i)) = w → f_X9_retell_12 M1 (some n) (nI p) z (lN (ls_sm (ls_sp σ ρ p) i)) (nI i) = w := fun q => bx (lc_r0 hl 4 11 (by decide)) (bx (pe_rc (lc_kent hl)) (bx (lc_esz hl) (iff_ (show ¬ nI (τ 28 0) ≤ nI i by rw [e28]; exact nI_ge hi (by omega)) (bx (lc_r0 hl 4 11 (by decide)) (bx (pe_rc (lc_kent hl)) (bx (lc_eget hl hi' (by omega)) (bx (pe_cc ke) (bx (lc_r0 hl 3 8 (by decide)) (bx (pfI ke i1) (bx (pe_rc (lc_kla hl (p := 4) (by omega))) (bx hma (bx (pfI ke i0) q))))))))))))
      have hn : ∀ (M2 : mm_M) (u : Int64), f_X9_retell_123 M2 (some n) (nI p) z u (nI i) = some (.inl (M2, u, nI (i + 1))) := fun M2 u => by
        show some (Sum.inl (M2, u, nI i + 1)) = _
        rw [nI_1]
      have eS : ls_sm (ls_sp σ ρ p) (i + 1) = ls_sm (ls_sp σ ρ p) i + ls_sp σ ρ p i := rfl
      by_cases ep : σ 18 i / 480 = p
      · have ea : 480 * p + σ 18 i % 480 = σ 18 i := by omega
        rw [ea] at hma2
        have esp : ls_sp σ ρ p i = ls_su σ ρ (σ 18 i) i := if_pos ep
        have ok := ls_rp_on h5 hk (ρ := ρ) hi rfl
        have hd := ls_day_b h5 h2 hi
        obtain ⟨er, eb⟩ := ls_er_b h5 hρ hi h2
        have hcv := lc_cv_of hl
        have erp : ∀ q, ls_rp σ ρ (480 * p + q) (i + 1) = if σ 18 i = 480 * p + q then ls_aB (ls_er σ ρ i) (ls_eb σ ρ i) (σ 20 i) (σ 19 i) (ls_rp σ ρ (480 * p + q) i) else ls_rp σ ρ (480 * p + q) i := fun q => rfl
        generalize hv : ls_rp σ ρ (σ 18 i) i = v at *
        obtain ⟨M2, f2, d2, A2⟩ := lc_move hma2 hcv (r := ls_er σ ρ i) (b := ls_eb σ ρ i) (ac := σ 20 i) (on := σ 19 i) er eb a4 ok (by omega)
        have hsh2 : lc_sh n σ B M2 (fun q => ls_rp σ ρ (480 * p + q) (i + 1)) := lc_sh_eq (hstep _ M2 d2 A2) (fun c hc s hs2 => by
          have h4 := (h1.2.1 c hc).2
          show ls_rp σ ρ (480 * p + (4 * c + s)) (i + 1) = if 4 * c + s = 4 * (σ 18 i % 480 / 4) + σ 18 i % 480 % 4 then ls_aB (ls_er σ ρ i) (ls_eb σ ρ i) (σ 20 i) (σ 19 i) v else ls_rp σ ρ (480 * p + (4 * c + s)) i
          rw [erp]
          by_cases e : 4 * c + s = 4 * (σ 18 i % 480 / 4) + σ 18 i % 480 % 4
          · have e2 : 480 * p + (4 * c + s) = σ 18 i := by omega
            rw [if_pos e, if_pos e2.symm, e2, hv]
          · rw [if_neg e, if_neg (by omega)])
        have one : f_X9_retellOne M1 (some n) (some μ) (some (lc_en n M1 i)) z = some M2 := by
          by_cases e : ρ = 3
          · have er3 : ls_er σ ρ i = σ 21 i := if_pos e
            have eb3 : ls_eb σ ρ i = σ 22 i := if_pos e
            rw [er3, eb3] at f2
            exact ift (by rw [hz, e]; rfl) (bx (pfI ke i4) (bx (pfI ke i3) (bx (pfI ke i5) (bx (pfI ke i2) (bx (lc_r0 hl 0 1 (by decide)) (bx (pe_rc hma2.1) (bx f2 rfl)))))))
          · have er3 : ls_er σ ρ i = ρ := if_neg e
            have eb3 : ls_eb σ ρ i = σ 5 (σ 20 i) := if_neg e
            rw [er3, eb3] at f2
            have hne : ¬ z = 3 := fun q => e ((nI_eq (a := ρ) (b := 3) (by omega) (by omega)).mp (hz.symm.trans q))
            have i19 := hl.2.1.2.1 (σ 20 i) (by omega)
            rw [ls_s_f hs (f := 5) (by omega)] at i19
            exact iff_ hne (bx (pfI ke i3) (bx (cl_isAnswer_in M1 ⟨nI_pos' (by omega), nI_le (b := 3) a4 (by omega)⟩) (iff_ ne10 (bx (pfI ke i3) (bx (lc_r0 hl 7 18 (by decide)) (bx (pfI ke i3) (bx (paI (lc_k hl (18, 12, 4) (by decide)) (show σ 20 i < 4 by omega) (by omega) i19) (bx (pfI ke i2) (bx (lc_r0 hl 0 1 (by decide)) (bx (pe_rc hma2.1) (bx (by rw [hz]; exact f2) rfl)))))))))))
        have fr := lc_isFresh hma2 (by have := ok.2.1; omega)
        have fin : ∀ u : Int64, f_X9_retell_114 M1 (some n) (nI p) z u (nI i) (some (lc_en n M1 i)) (some μ) = some (.inl (M2, u, nI (i + 1))) := fun u => bx (pe_rc (lc_k0 hl)) (bx one (hn M2 u))
        refine ⟨(M2, lN (ls_sm (ls_sp σ ρ p) (i + 1)), nI (i + 1)), X (ift (by rw [ep]) (iff_ (fun q => nomatch q) (bx (pe_rc hma2.1) (bx fr ?_)))), M2, rfl, hsh2, lc_sk_tr hsk (lc_sk_df d2)⟩
        rw [eS, esp]
        by_cases h0 : v.1 = 0
        · have e0 : ls_su σ ρ (σ 18 i) i = 0 := if_neg (fun q => by have := q.2; rw [hv] at this; omega)
          rw [e0]
          exact iff_ (by rw [if_pos h0]; decide) (fin _)
        · have hch := lc_chanceOn hma2 hcv ok (by omega)
          rw [if_neg h0] at hch
          have hle : ls_ch v (σ 19 i) ≤ 1000 := ls_F_le _
          have es : ls_su σ ρ (σ 18 i) i = if σ 20 i = 0 then ls_ch v (σ 19 i) else 1000 - ls_ch v (σ 19 i) := by
            unfold ls_su
            rw [hv, if_pos ⟨rfl, by omega⟩]
          rw [es]
          refine ift (if_neg h0) (bx (pfI ke i2) (bx (lc_r0 hl 0 1 (by decide)) (bx (pe_rc hma2.1) (bx hch (bx (pfI ke i3) ?_)))))
          by_cases ha : σ 20 i = 0
          · rw [if_pos ha]
            refine ift (by rw [ha]; decide) ?_
            show f_X9_retell_114 M1 _ _ _ (lN (ls_sm (ls_sp σ ρ p) i) + (nI (ls_ch v (σ 19 i))).toInt64) _ _ _ = _
            rw [nI_l (by omega), lN_add]
            exact fin _
          · rw [if_neg ha]
            refine iff_ (nI_ne0 (by omega) (by omega)) ?_
            show f_X9_retell_114 M1 _ _ _ (lN (ls_sm (ls_sp σ ρ p) i) + ((1000 : Int32) - nI (ls_ch v (σ 19 i))).toInt64) _ _ _ = _
            rw [show (1000 : Int32) - nI (ls_ch v (σ 19 i)) = nI (1000 - ls_ch v (σ 19 i)) from pk_sub (a := 1000) hle, nI_l (by omega), lN_add]
            exact fin _
      · have esp : ls_sp σ ρ p i = 0 := if_neg ep
        refine ⟨_, X (iff_ (fun q => ep ((nI_eq (by omega) (by omega)).mp q)) (hn M1 _)), M1, by rw [eS, esp]; rfl, lc_sh_eq hsh (fun c hc s hs2 => ?_), hsk⟩
        have h4 := (h1.2.1 c hc).2
        exact if_neg (by omega)) (by
      rintro x ⟨M1, rfl, hsh, hsk⟩
      obtain ⟨τ, hs, hl, hm⟩ := id hsh
      have e28 : τ 28 0 = σ 28 0 := by rw [ls_s_f hs (f := 28) (by omega)]
      exact ⟨_, bx (lc_r0 hl 4 11 (by decide)) (bx (pe_rc (lc_kent hl)) (bx (lc_esz hl) (ift (show nI (τ 28 0) ≤ nI (σ 28 0) by rw [e28]; exact nI_le (Nat.le_refl _) (by omega)) (mpx rfl)))), M1, rfl, hsh, hsk⟩)
  obtain ⟨τ, hs, hl, hm⟩ := h
  exact ⟨M1, bx (lc_r0 hl 3 8 (by decide)) (bx (pe_rc (lc_kla hl (p := 4) (by omega))) (bx f0 hy)), hsh, hsk⟩
end
