section
variable {n k : Nat} {σ τ υ : ls_S} {B M M1 : mm_M}
theorem ls_vf (h : ls_v σ τ) {f : Nat} (hf : f < 29 ∨ 33 < f) (h2 : f ≠ 45) : τ f = σ f := h f (ls_nx_of hf h2)
/-- alike in what a rule makes of the log -/
def ls_lg (σ τ : ls_S) : Prop := ∀ f, (f = 5 ∨ (18 ≤ f ∧ f ≤ 22) ∨ f = 28) → τ f = σ f
theorem ls_lg_v (h : ls_v σ τ) : ls_lg σ τ := fun f hf => ls_vf h (by omega) (by omega)
theorem ls_lg_s (h : ls_s σ τ) : ls_lg σ τ := fun f hf => ls_s_f h (by omega)
theorem ls_rp_c (h : ls_lg σ τ) (ρ a : Nat) : ∀ i, ls_rp τ ρ a i = ls_rp σ ρ a i
  | 0 => rfl
  | i + 1 => by
    unfold ls_rp ls_er ls_eb
    rw [ls_rp_c h ρ a i, h 18 (by omega), h 19 (by omega), h 20 (by omega), h 21 (by omega), h 22 (by omega), h 5 (by omega)]
theorem ls_su_c (h : ls_lg σ τ) (ρ a : Nat) : ls_su τ ρ a = ls_su σ ρ a := by
  funext i
  unfold ls_su
  rw [ls_rp_c h ρ a i, h 18 (by omega), h 19 (by omega), h 20 (by omega)]
theorem ls_sp_c (h : ls_lg σ τ) (ρ p : Nat) : ls_sp τ ρ p = ls_sp σ ρ p := by
  funext i
  unfold ls_sp
  rw [ls_su_c h, h 18 (by omega)]
theorem ls_28_c (h : ls_lg σ τ) : τ 28 0 = σ 28 0 := by rw [h 28 (by omega)]
theorem ls_replay (h : ls_M n σ B M) (hG : ls_G k σ) (hk : k ≤ 512) {a ρ : Nat} (ha : a < 1920) {z : Int32} (hz : (ρ ≤ 2 ∧ z = nI ρ) ∨ (ρ = 3 ∧ z = -1)) : ∃ M1 τ, f_X10_replay M (some (n + 31)) (nI a) z = some (lN (ls_sm (ls_su σ ρ a) (σ 28 0)), M1) ∧ ls_M n τ B M1 ∧ ls_v σ τ ∧ ls_sc τ = ls_rp σ ρ a (σ 28 0) := by
  have h2 := hG.2.1
  have h5 := hG.2.2.2.2.1
  have h28 := h5.1
  have hρ : ρ ≤ 3 := by rcases hz with ⟨h, -⟩ | ⟨h, -⟩ <;> omega
  obtain ⟨M0, τ0, f0, m0, v0, c0⟩ := ls_begin h
  obtain ⟨y, hy, M1, τ, rfl, hm, hv, hc⟩ := pe_cnt (body := fun x : mm_M × Int64 × Int32 => f_X10_replay_9 x.1 (some (n + 31)) (nI a) z x.2.1 x.2.2) (x := (M0, 0, 0))
    (fun i x => ∃ M1 τ, x = (M1, lN (ls_sm (ls_su σ ρ a) i), nI i) ∧ ls_M n τ B M1 ∧ ls_v σ τ ∧ ls_sc τ = ls_rp σ ρ a i)
    (fun y => ∃ M1 τ, y = (lN (ls_sm (ls_su σ ρ a) (σ 28 0)), M1) ∧ ls_M n τ B M1 ∧ ls_v σ τ ∧ ls_sc τ = ls_rp σ ρ a (σ 28 0)) (σ 28 0) ⟨M0, τ0, rfl, m0, v0, c0⟩ (by
      rintro i x hi ⟨M1, τ, rfl, hm, hv, hc⟩
      obtain ⟨a1, a2, a3, a4, a5, a6, a7, a8, a9⟩ := h5.2 i hi
      have e28 : τ 28 0 = σ 28 0 := by rw [ls_vf hv (f := 28) (by omega) (by omega)]
      have e18 : τ 18 i = σ 18 i := by rw [ls_vf hv (f := 18) (by omega) (by omega)]
      have e19 : τ 19 i = σ 19 i := by rw [ls_vf hv (f := 19) (by omega) (by omega)]
      have e20 : τ 20 i = σ 20 i := by rw [ls_vf hv (f := 20) (by omega) (by omega)]
      have e21 : τ 21 i = σ 21 i := by rw [ls_vf hv (f := 21) (by omega) (by omega)]
      have e22 : τ 22 i = σ 22 i := by rw [ls_vf hv (f := 22) (by omega) (by omega)]
      have e5 : τ 5 (σ 20 i) = σ 5 (σ 20 i) := by rw [ls_vf hv (f := 5) (by omega) (by omega)]
      have i3 : i < 3000 := by omega
      have r18 : mm_aI M1 (some (ls_ad n 18)) 12 (nI i) = some (nI (σ 18 i)) := by rw [← e18]; exact ls_aI hm 18 i (by decide) i3
      have r19 : mm_aI M1 (some (ls_ad n 19)) 12 (nI i) = some (nI (σ 19 i)) := by rw [← e19]; exact ls_aI hm 19 i (by decide) i3
      have r20 : mm_aI M1 (some (ls_ad n 20)) 12 (nI i) = some (nI (σ 20 i)) := by rw [← e20]; exact ls_aI hm 20 i (by decide) i3
      have r21 : mm_aI M1 (some (ls_ad n 21)) 12 (nI i) = some (nI (σ 21 i)) := by rw [← e21]; exact ls_aI hm 21 i (by decide) i3
      have r22 : mm_aI M1 (some (ls_ad n 22)) 12 (nI i) = some (nI (σ 22 i)) := by rw [← e22]; exact ls_aI hm 22 i (by decide) i3
      have r5 : mm_aI M1 (some (ls_ad n 5)) 12 (nI (σ 20 i)) = some (nI (σ 5 (σ 20 i))) := by rw [← e5]; exact ls_aI hm 5 (σ 20 i) (by decide) (show σ 20 i < 4 by omega)
      have hn : ∀ (M2 : mm_M) (u : Int64), f_X10_replay_134 M2 (some (n + 31)) (nI a) z u (nI i) = some (.inl (M2, u, nI (i + 1))) := fun M2 u => by
        show some (Sum.inl (M2, u, nI i + 1)) = _
        rw [nI_1]
      have X : ∀ {w}, (if nI (σ 18 i) = nI a then f_X10_replay_29 M1 (some (n + 31)) (nI a) z (lN (ls_sm (ls_su σ ρ a) i)) (nI i) else f_X10_replay_134 M1 (some (n + 31)) (nI a) z (lN (ls_sm (ls_su σ ρ a) i)) (nI i)) = w → f_X10_replay_9 M1 (some (n + 31)) (nI a) z (lN (ls_sm (ls_su σ ρ a) i)) (nI i) = w := fun q => bx (ls_fI hm 28 (by decide)) (iff_ (show ¬ nI (τ 28 0) ≤ nI i by rw [e28]; exact nI_ge hi (by omega)) (bx (ls_fR hm 18 (by decide)) (bx r18 q)))
      have eS : ls_sm (ls_su σ ρ a) (i + 1) = ls_sm (ls_su σ ρ a) i + ls_su σ ρ a i := rfl
      by_cases ea : σ 18 i = a
      · have ok := ls_rp_on h5 hk (ρ := ρ) hi ea
        have hd := ls_day_b h5 h2 hi
        obtain ⟨er, eb⟩ := ls_er_b h5 hρ hi h2
        have erp : ls_rp σ ρ a (i + 1) = ls_aB (ls_er σ ρ i) (ls_eb σ ρ i) (σ 20 i) (σ 19 i) (ls_rp σ ρ a i) := if_pos ea
        obtain ⟨M2, τ2, f2, hm2, hv2, hc2⟩ := ls_answerBy hm hc (r := ls_er σ ρ i) (b := ls_eb σ ρ i) (a := σ 20 i) (on := σ 19 i) er eb a4 ok (by omega)
        have mid : ∀ u : Int64, f_X10_replay_75 M1 (some (n + 31)) (nI a) z u (nI i) = some (.inl (M2, u, nI (i + 1))) := by
          intro u
          have t117 : ∀ (s1 s2 : Int32), s1 = nI (ls_er σ ρ i) → s2 = nI (ls_eb σ ρ i) → f_X10_replay_117 M1 (some (n + 31)) (nI a) z u (nI i) (some (n + 31)) s1 s2 = some (.inl (M2, u, nI (i + 1))) := by
            rintro _ _ rfl rfl
            exact bx (ls_fR hm 20 (by decide)) (bx r20 (bx (ls_fR hm 19 (by decide)) (bx r19 (bx (ls_rc hm) (bx f2 (hn M2 u))))))
          rcases hz with ⟨hr, hz⟩ | ⟨hr, hz⟩
          · have hne : ¬ ρ = 3 := by omega
            have h0 : 0 ≤ z := by rw [hz]; exact nI_pos' (by omega)
            exact ift h0 (ift h0 (bx (ls_fR hm 5 (by decide)) (bx (ls_fR hm 20 (by decide)) (bx r20 (bx r5 (t117 _ _ (by rw [show ls_er σ ρ i = ρ from if_neg hne]; exact hz) (by rw [show ls_eb σ ρ i = σ 5 (σ 20 i) from if_neg hne])))))))
          · have h0 : ¬ 0 ≤ z := by rw [hz]; decide
            exact iff_ h0 (bx (ls_fR hm 21 (by decide)) (bx r21 (iff_ h0 (bx (ls_fR hm 22 (by decide)) (bx r22 (t117 _ _ (by rw [show ls_er σ ρ i = σ 21 i from if_pos hr]) (by rw [show ls_eb σ ρ i = σ 22 i from if_pos hr])))))))
        obtain ⟨s29, -, -, -, -⟩ := ls_sc1 hc
        obtain ⟨k1, k2, k3, k4, k5, k6, k7⟩ := id ok
        by_cases h0 : (ls_rp σ ρ a i).1 = 0
        · have e0 : ls_su σ ρ a i = 0 := if_neg (fun q => by have := q.2; omega)
          exact ⟨_, X (ift (by rw [ea]) (bx (ls_fI hm 29 (by decide)) (ift (show nI (τ 29 0) ≤ 0 by rw [s29, h0]; decide) (mid _)))), M2, τ2, by rw [eS, e0]; rfl, hm2, ls_v_tr hv hv2, by rw [erp]; exact hc2⟩
        · have hle : ls_ch (ls_rp σ ρ a i) (σ 19 i) ≤ 1000 := ls_F_le _
          have es : ls_su σ ρ a i = if σ 20 i = 0 then ls_ch (ls_rp σ ρ a i) (σ 19 i) else 1000 - ls_ch (ls_rp σ ρ a i) (σ 19 i) := if_pos ⟨ea, by omega⟩
          have hch := ls_chance hm hc (on := σ 19 i) (by omega) k2 k6 (by omega)
          have Z : ∀ {w}, (if nI (σ 20 i) = 0 then f_X10_replay_60 M1 (some (n + 31)) (nI a) z (nI i) (nI (ls_ch (ls_rp σ ρ a i) (σ 19 i))) (lN (ls_sm (ls_su σ ρ a) i)) else f_X10_replay_66 M1 (some (n + 31)) (nI a) z (nI i) (nI (ls_ch (ls_rp σ ρ a i) (σ 19 i))) (lN (ls_sm (ls_su σ ρ a) i))) = w → f_X10_replay_9 M1 (some (n + 31)) (nI a) z (lN (ls_sm (ls_su σ ρ a) i)) (nI i) = w := fun q => X (ift (by rw [ea]) (bx (ls_fI hm 29 (by decide)) (iff_ (show ¬ nI (τ 29 0) ≤ 0 by rw [s29]; exact nI_nle (by omega) (by omega)) (bx (ls_fR hm 19 (by decide)) (bx r19 (bx (ls_rc hm) (bx hch (bx (ls_fR hm 20 (by decide)) (bx r20 q)))))))))
          refine ⟨(M2, lN (ls_sm (ls_su σ ρ a) (i + 1)), nI (i + 1)), ?_, M2, τ2, rfl, hm2, ls_v_tr hv hv2, by rw [erp]; exact hc2⟩
          rw [eS, es]
          by_cases h20 : σ 20 i = 0
          · rw [if_pos h20]
            refine Z (ift (by rw [h20]; decide) ?_)
            show f_X10_replay_75 M1 _ _ _ (lN (ls_sm (ls_su σ ρ a) i) + (nI (ls_ch (ls_rp σ ρ a i) (σ 19 i))).toInt64) _ = _
            rw [nI_l (by omega), lN_add]
            exact mid _
          · rw [if_neg h20]
            refine Z (iff_ (nI_ne0 (by omega) (by omega)) ?_)
            show f_X10_replay_75 M1 _ _ _ (lN (ls_sm (ls_su σ ρ a) i) + ((1000 : Int32) - nI (ls_ch (ls_rp σ ρ a i) (σ 19 i))).toInt64) _ = _
            rw [show (1000 : Int32) - nI (ls_ch (ls_rp σ ρ a i) (σ 19 i)) = nI (1000 - ls_ch (ls_rp σ ρ a i) (σ 19 i)) from pk_sub (a := 1000) hle, nI_l (by omega), lN_add]
            exact mid _
      · have e0 : ls_su σ ρ a i = 0 := ls_su_ne ea
        have erp : ls_rp σ ρ a (i + 1) = ls_rp σ ρ a i := if_neg ea
        exact ⟨_, X (iff_ (fun q => ea ((nI_eq (by omega) (by omega)).mp q)) (hn M1 _)), M1, τ, by rw [eS, e0]; rfl, hm, hv, by rw [erp]; exact hc⟩) (by
      rintro x ⟨M1, τ, rfl, hm, hv, hc⟩
      have e28 : τ 28 0 = σ 28 0 := by rw [ls_vf hv (f := 28) (by omega) (by omega)]
      exact ⟨_, bx (ls_fI hm 28 (by decide)) (ift (show nI (τ 28 0) ≤ nI (σ 28 0) by rw [e28]; exact nI_le (Nat.le_refl _) (by omega)) (mpx rfl)), M1, τ, rfl, hm, hv, hc⟩)
  exact ⟨M1, τ, bx (ls_rc h) (bx f0 hy), hm, hv, hc⟩
theorem ls_surpriseOf (h : ls_M n σ B M) (hG : ls_G k σ) (hk : k ≤ 512) {p ρ : Nat} (hp : p < 4) (hρ : ρ ≤ 2) : ∃ M1 τ, f_X10_surpriseOf M (some (n + 31)) (nI p) (nI ρ) = some (lN (ls_sm (ls_sp σ ρ p) (σ 28 0)), M1) ∧ ls_M n τ B M1 ∧ ls_v σ τ := by
  obtain ⟨y, hy, M1, τ, rfl, hm, hv⟩ := pe_cnt (body := fun x : mm_M × Int64 × Int32 => f_X10_surpriseOf_5 x.1 (some (n + 31)) (nI p) (nI ρ) x.2.1 x.2.2) (x := (M, 0, 0))
    (fun i x => ∃ M1 τ, x = (M1, lN (ls_sm (fun q => ls_sm (ls_su σ ρ (480 * p + q)) (σ 28 0)) i), nI i) ∧ ls_M n τ B M1 ∧ ls_v σ τ)
    (fun y => ∃ M1 τ, y = (lN (ls_sm (fun q => ls_sm (ls_su σ ρ (480 * p + q)) (σ 28 0)) 480), M1) ∧ ls_M n τ B M1 ∧ ls_v σ τ) 480 ⟨M, σ, rfl, h, ls_v_rf σ⟩ (by
      rintro i x hi ⟨M1, τ, rfl, hm, hv⟩
      obtain ⟨M2, τ2, f2, hm2, hv2, -⟩ := ls_replay hm (ls_G_v hG hv) hk (a := 480 * p + i) (ρ := ρ) (by omega) (Or.inl ⟨hρ, rfl⟩)
      rw [ls_su_c (ls_lg_v hv), ls_28_c (ls_lg_v hv)] at f2
      refine ⟨(M2, lN (ls_sm (fun q => ls_sm (ls_su σ ρ (480 * p + q)) (σ 28 0)) (i + 1)), nI (i + 1)), iff_ (nI_ge (b := 480) hi (by omega)) (bx (ls_rc hm) (b2x (by rw [ls_ix2]; exact f2) ?_)), M2, τ2, rfl, hm2, ls_v_tr hv hv2⟩
      show some (Sum.inl (M2, lN (ls_sm (fun q => ls_sm (ls_su σ ρ (480 * p + q)) (σ 28 0)) i) + lN (ls_sm (ls_su σ ρ (480 * p + i)) (σ 28 0)), nI i + 1)) = _
      rw [nI_1, lN_add]
      rfl) (by
      rintro x ⟨M1, τ, rfl, hm, hv⟩
      exact ⟨_, ift (nI_le (a := 480) (b := 480) (Nat.le_refl _) (by omega)) (mpx rfl), M1, τ, rfl, hm, hv⟩)
  rw [ls_su_ex] at hy
  exact ⟨M1, τ, hy, hm, hv⟩
theorem lc_sh_of (h : lc n σ B M) : lc_sh n σ B M (fun q => ls_at σ (480 * 4 + q)) := ⟨σ, ls_s_rf σ, h, fun c _ s _ => by rw [Nat.add_assoc]⟩
/-- both worlds behind a class call that changes the shadow alone -/
theorem ls_sh2 (hM : ls_M n σ M M) (hG : ls_G k σ) (hs : ls_s σ τ) (hl : lc n τ M M1) : ls_M n τ M1 M1 ∧ ls_G k τ := ⟨ls_M_s (ls_M_mv hM hl.2.2) hs, ls_G_w hG (ls_w_s hs)⟩
theorem ca_surprise (hM : ls_M n σ M M) (hc : lc n σ M M) (hG : ls_G k σ) (hk : k ≤ 512) (x y : Int32) : ls_cc n k M (fun M => f_X9_surprise M (some n) x y) (fun M => f_X10_surprise M (some (n + 31)) x y) := by
  rcases pe_pupil x with ⟨p, hp, rfl⟩ | hx
  · by_cases hy : 0 ≤ y ∧ y ≤ 2
    · obtain ⟨ρ, hρ, rfl⟩ := pe_argle (n := 2) (by omega) hy.1 hy.2
      obtain ⟨M1, f1, ⟨τ, hs, hl, hm⟩, sk⟩ := cl_retell (lc_sh_of hc) hG hk hp (ρ := ρ) (by omega) rfl
      obtain ⟨hM1, hG1⟩ := ls_sh2 hM hG hs hl
      obtain ⟨M2, υ, f2, hM2, hv2⟩ := ls_surpriseOf hM1 hG1 hk hp (ρ := ρ) hρ
      rw [ls_sp_c (ls_lg_s hs), ls_28_c (ls_lg_s hs)] at f2
      exact ⟨_, M1, M2, bx (pe_rc (lc_k0 hc)) (bx (lc_learnerAt hc hp) (iff_ (fun q => nomatch q) (bx (cl_isRule_in M hy) (iff_ ne10 (bx (pe_rc (lc_k0 hc)) (b2x f1 rfl)))))), bx (ls_isPupil_in M1 hp) (iff_ ne10 (bx (ls_within_in M1 hy) (iff_ ne10 (bx (ls_rc hM1) (b2x f2 rfl))))), ls_fin hM2 (lc_σ hl hv2) (ls_G_v hG1 hv2)⟩
    · exact ⟨-1, M, M, bx (pe_rc (lc_k0 hc)) (bx (lc_learnerAt hc hp) (iff_ (fun q => nomatch q) (bx (cl_isRule_out M hy) (ift rfl rfl)))), bx (ls_isPupil_in M hp) (iff_ ne10 (bx (ls_within_out M hy) (ift rfl rfl))), ls_no hM hc hG⟩
  · exact ⟨-1, M, M, bx (pe_rc (lc_k0 hc)) (bx (lc_learnerOut hc hx) (ift rfl rfl)), bx (ls_isPupil_out M hx) (ift rfl rfl), ls_no hM hc hG⟩
/-- the first of the least of the first ones -/
def ls_bt (S : Nat → Nat) : Nat → Nat
  | 0 => 0
  | i + 1 => if S i < S (ls_bt S i) then i else ls_bt S i
theorem ls_bt_b (S : Nat → Nat) : ∀ i, ls_bt S i ≤ i
  | 0 => Nat.le_refl _
  | i + 1 => by
    have := ls_bt_b S i
    unfold ls_bt
    split <;> omega
theorem ca_better (hM : ls_M n σ M M) (hc : lc n σ M M) (hG : ls_G k σ) (hk : k ≤ 512) (x : Int32) : ls_cc n k M (fun M => f_X9_better M (some n) x) (fun M => f_X10_better M (some (n + 31)) x) := by
  rcases pe_pupil x with ⟨p, hp, rfl⟩ | hx
  · have h28 := hG.2.2.2.2.1.1
    have hb : ∀ ρ, ls_sm (ls_sp σ ρ p) (σ 28 0) < 2 ^ 63 := fun ρ => by
      have := ls_sm_b (ls_sp_le σ ρ p) (σ 28 0)
      omega
    have hS : ∃ S : Nat → Nat, S = fun ρ => ls_sm (ls_sp σ ρ p) (σ 28 0) := ⟨_, rfl⟩
    obtain ⟨S, eS⟩ := hS
    have eS' : ∀ ρ, ls_sm (ls_sp σ ρ p) (σ 28 0) = S ρ := fun ρ => by rw [eS]
    have hb' : ∀ ρ, S ρ < 2 ^ 63 := fun ρ => by rw [eS]; exact hb ρ
    obtain ⟨M0, f0, s0, k0⟩ := cl_retell (lc_sh_of hc) hG hk hp (ρ := 0) (by omega) (z := 0) rfl
    rw [eS'] at f0
    have k01 : ls_bt S 1 = 0 := by
      show (if S 0 < S 0 then 0 else 0) = 0
      split <;> rfl
    obtain ⟨r1, hr1, M1, rfl, m1, hs1⟩ := pe_cnt (body := fun x : mm_M × Int32 × Int64 × Int32 => f_X9_better_22 x.1 (some n) (nI p) x.2.1 x.2.2.1 x.2.2.2) (x := (M0, 0, lN (S 0), 1))
      (fun i x => ∃ M1, x = (M1, nI (ls_bt S (i + 1)), lN (S (ls_bt S (i + 1))), nI (i + 1)) ∧ ∃ m, lc_sh n σ M M1 m)
      (fun y => ∃ M1, y = (nI (ls_bt S 3), M1) ∧ ∃ m, lc_sh n σ M M1 m) 2 ⟨M0, by rw [k01]; rfl, _, s0⟩ (by
        rintro i x hi ⟨M1, rfl, m, hsh⟩
        obtain ⟨M2, f2, s2, k2⟩ := cl_retell hsh hG hk hp (ρ := i + 1) (by omega) rfl
        rw [eS'] at f2
        have hk9 : mm_rc M1 (some n) 10 = some () := by
          obtain ⟨τ, hs, hl, -⟩ := hsh
          exact pe_rc (lc_k0 hl)
        have e : ls_bt S (i + 1 + 1) = if S (i + 1) < S (ls_bt S (i + 1)) then i + 1 else ls_bt S (i + 1) := rfl
        refine ⟨(M2, nI (ls_bt S (i + 1 + 1)), lN (S (ls_bt S (i + 1 + 1))), nI (i + 1 + 1)), iff_ (nI_nlt (a := 2) (b := i + 1) (by omega) (by omega)) (bx hk9 (b2x f2 ?_)), M2, rfl, _, s2⟩
        have hn : ∀ (u : Int32) (w : Int64), f_X9_better_50 M2 (some n) (nI p) u w (nI (i + 1)) = some (.inl (M2, u, w, nI (i + 1 + 1))) := fun u w => by
          show some (Sum.inl (M2, u, w, nI (i + 1) + 1)) = _
          rw [nI_1]
        by_cases hlt : S (i + 1) < S (ls_bt S (i + 1))
        · rw [e, if_pos hlt]
          exact iff_ (fun q => by have := (pk_lLE (hb' _) (hb' _)).mp ((lg_ge _ _).mp q); omega) (hn _ _)
        · rw [e, if_neg hlt]
          exact ift ((lg_ge _ _).mpr ((pk_lLE (hb' _) (hb' _)).mpr (by omega))) (hn _ _)) (by
        rintro x ⟨M1, rfl, hm⟩
        exact ⟨_, ift (nI_lt (a := 2) (b := 3) (by omega) (by omega)) (mpx rfl), M1, rfl, hm⟩)
    obtain ⟨τ, hs, hl, hm⟩ := hs1
    obtain ⟨hM1, hG1⟩ := ls_sh2 hM hG hs hl
    obtain ⟨r2, hr2, M2, υ, rfl, hM2, hv2⟩ := pe_cnt (body := fun x : mm_M × Int32 × Int32 => f_X10_better_13 x.1 (some (n + 31)) (nI p) x.2.1 x.2.2) (x := (M1, 0, 1))
      (fun i x => ∃ M2 υ, x = (M2, nI (ls_bt S (i + 1)), nI (i + 1)) ∧ ls_M n υ M1 M2 ∧ ls_v τ υ)
      (fun y => ∃ M2 υ, y = (nI (ls_bt S 3), M2) ∧ ls_M n υ M1 M2 ∧ ls_v τ υ) 2 ⟨M1, τ, by rw [k01]; rfl, hM1, ls_v_rf τ⟩ (by
        rintro i x hi ⟨M2, υ, rfl, h2, v2⟩
        have hbt := ls_bt_b S (i + 1)
        have hbt2 : ls_bt S (i + 1) ≤ 2 := by omega
        obtain ⟨M3, υ3, f3, h3, v3⟩ := ls_surpriseOf h2 (ls_G_v hG1 v2) hk hp (ρ := i + 1) (by omega)
        rw [ls_sp_c (ls_lg_v v2), ls_28_c (ls_lg_v v2), ls_sp_c (ls_lg_s hs), ls_28_c (ls_lg_s hs), eS'] at f3
        have v23 := ls_v_tr v2 v3
        obtain ⟨M4, υ4, f4, h4, v4⟩ := ls_surpriseOf h3 (ls_G_v hG1 v23) hk hp (ρ := ls_bt S (i + 1)) hbt2
        rw [ls_sp_c (ls_lg_v v23), ls_28_c (ls_lg_v v23), ls_sp_c (ls_lg_s hs), ls_28_c (ls_lg_s hs), eS'] at f4
        have e : ls_bt S (i + 1 + 1) = if S (i + 1) < S (ls_bt S (i + 1)) then i + 1 else ls_bt S (i + 1) := rfl
        refine ⟨(M4, nI (ls_bt S (i + 1 + 1)), nI (i + 1 + 1)), iff_ (nI_ge (a := i + 1) (b := 3) (by omega) (by omega)) (bx (ls_rc h2) (b2x f3 (bx (ls_rc h3) (b2x f4 ?_)))), M4, υ4, rfl, h4, ls_v_tr v23 v4⟩
        have hn : ∀ (u : Int32), f_X10_better_39 M4 (some (n + 31)) (nI p) (nI (i + 1)) u = some (.inl (M4, u, nI (i + 1 + 1))) := fun u => by
          show some (Sum.inl (M4, u, nI (i + 1) + 1)) = _
          rw [nI_1]
        by_cases hlt : S (i + 1) < S (ls_bt S (i + 1))
        · rw [e, if_pos hlt]
          exact iff_ (fun q => by have := (pk_lLE (hb' _) (hb' _)).mp ((lg_ge _ _).mp q); omega) (hn _)
        · rw [e, if_neg hlt]
          exact ift ((lg_ge _ _).mpr ((pk_lLE (hb' _) (hb' _)).mpr (by omega))) (hn _)) (by
        rintro x ⟨M2, υ, rfl, h2, v2⟩
        exact ⟨_, ift (nI_le (a := 3) (b := 3) (by omega) (by omega)) (mpx rfl), M2, υ, rfl, h2, v2⟩)
    exact ⟨nI (ls_bt S 3), M1, M2, bx (pe_rc (lc_k0 hc)) (bx (lc_learnerAt hc hp) (iff_ (fun q => nomatch q) (bx (pe_rc (lc_k0 hc)) (b2x f0 hr1)))), bx (ls_isPupil_in M1 hp) (iff_ ne10 hr2), ls_fin hM2 (lc_σ hl hv2) (ls_G_v hG1 hv2)⟩
  · exact ⟨-1, M, M, bx (pe_rc (lc_k0 hc)) (bx (lc_learnerOut hc hx) (ift rfl rfl)), bx (ls_isPupil_out M hx) (ift rfl rfl), ls_no hM hc hG⟩
theorem ca_other (hM : ls_M n σ M M) (hc : lc n σ M M) (hG : ls_G k σ) (hk : k ≤ 512) (x y u w : Int32) : ls_cc n k M (fun M => f_X9_other M (some n) x y u w) (fun M => f_X10_other M (some (n + 31)) x y u w) := by
  have O1 := hG.1
  have h120 := O1.1
  have ks : mm_rc M (some (n + 8)) 7 = some () := pe_rc (lc_kla hc (p := 4) (by omega))
  have hmo : ∃ v5, f_X6_memoryOf M (some (n + 8)) u w = some v5 := by
    rcases pe_side σ u w with ⟨c, s, hc1, hs1, rfl, rfl⟩ | hs
    · exact ⟨_, lc_memOf hc O1 (p := 4) (by omega) hc1 hs1⟩
    · exact ⟨_, lc_memOfOut hc O1 (p := 4) (by omega) hs⟩
  rcases pe_pupil x with ⟨p, hp, rfl⟩ | hx
  · by_cases hy : 0 ≤ y ∧ y ≤ 2
    · obtain ⟨ρ, hρ, rfl⟩ := pe_argle (n := 2) (by omega) hy.1 hy.2
      rcases pe_side σ u w with ⟨c, s, hc1, hs1, rfl, rfl⟩ | hs
      · have h4 := (O1.2.1 c hc1).2
        obtain ⟨M1, f1, ⟨τ, hs, hl, hm⟩, sk⟩ := cl_retell (lc_sh_of hc) hG hk hp (ρ := ρ) (by omega) rfl
        obtain ⟨hM1, hG1⟩ := ls_sh2 hM hG hs hl
        have e3 : τ 3 0 = σ 3 0 := by rw [ls_s_f hs (f := 3) (by omega)]
        have e0 : τ 0 = σ 0 := ls_s_f hs (by omega)
        obtain ⟨M2, υ, f2, hM2, hv2, hc2⟩ := ls_replay hM1 hG1 hk (a := 480 * p + 4 * c + s) (ρ := ρ) (by omega) (Or.inl ⟨hρ, rfl⟩)
        rw [ls_rp_c (ls_lg_s hs), ls_28_c (ls_lg_s hs)] at hc2
        have hat := lc_at_of hl (p := 4) (by omega) (by rw [e3]; exact hc1) (by rw [e0]; exact hs1)
        rw [hm c hc1 s hs1, lc_sk_mu sk] at hat
        have hat : lc_at M1 (lc_mu n M 4 c s) (ls_rp σ ρ (480 * p + (4 * c + s)) (σ 28 0)) := hat
        rw [← Nat.add_assoc] at hat
        obtain ⟨s29, -, -, -, -⟩ := ls_sc1 hc2
        refine ⟨nI (ls_rp σ ρ (480 * p + 4 * c + s) (σ 28 0)).1, M1, M2, bx (lc_r0 hc 3 8 (by decide)) (bx ks (bx (lc_memOf hc O1 (p := 4) (by omega) hc1 hs1) (bx (pe_rc (lc_k0 hc)) (bx (lc_learnerAt hc hp) (iff_ (fun q => nomatch q) (bx (cl_isRule_in M hy) (iff_ ne10 (iff_ (fun q => nomatch q) (bx (pe_rc (lc_k0 hc)) (b2x f1 (bx (pfI hat.1 hat.2.1) rfl))))))))))), bx (ls_isPupil_in M1 hp) (iff_ ne10 (bx (ls_within_in M1 hy) (iff_ ne10 (bx (ls_rc hM1) (bx (ls_isSide_in hM1 (by rw [e3]; exact h120) (by rw [e3]; exact hc1) (by rw [e0]; exact hs1) (by rw [e0]; omega)) (iff_ ne10 (bx (ls_rc hM1) (b2x (by rw [ls_ix]; exact f2) (bx (ls_fI hM2 29 (by decide)) ?_))))))))), ls_fin hM2 (lc_σ hl hv2) (ls_G_v hG1 hv2)⟩
        show some (nI (υ 29 0), M2) = _
        rw [s29]
      · exact ⟨-1, M, M, bx (lc_r0 hc 3 8 (by decide)) (bx ks (bx (lc_memOfOut hc O1 (p := 4) (by omega) hs) (bx (pe_rc (lc_k0 hc)) (bx (lc_learnerAt hc hp) (iff_ (fun q => nomatch q) (bx (cl_isRule_in M hy) (iff_ ne10 (ift rfl rfl)))))))), bx (ls_isPupil_in M hp) (iff_ ne10 (bx (ls_within_in M hy) (iff_ ne10 (bx (ls_rc hM) (bx (ls_isSide_out hM h120 (fun c h => ls_O1s O1 h) hs) (ift rfl rfl)))))), ls_no hM hc hG⟩
    · obtain ⟨v5, e5⟩ := hmo
      exact ⟨-1, M, M, bx (lc_r0 hc 3 8 (by decide)) (bx ks (bx e5 (bx (pe_rc (lc_k0 hc)) (bx (lc_learnerAt hc hp) (iff_ (fun q => nomatch q) (bx (cl_isRule_out M hy) (ift rfl rfl))))))), bx (ls_isPupil_in M hp) (iff_ ne10 (bx (ls_within_out M hy) (ift rfl rfl))), ls_no hM hc hG⟩
  · obtain ⟨v5, e5⟩ := hmo
    exact ⟨-1, M, M, bx (lc_r0 hc 3 8 (by decide)) (bx ks (bx e5 (bx (pe_rc (lc_k0 hc)) (bx (lc_learnerOut hc hx) (ift rfl rfl))))), bx (ls_isPupil_out M hx) (ift rfl rfl), ls_no hM hc hG⟩
end
