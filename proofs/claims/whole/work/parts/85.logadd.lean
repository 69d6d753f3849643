/-- an answer written into the log, so far -/
def ls_lx (σ : ls_S) (L : Nat) (w : Nat → Nat) (m : Nat) : ls_S := fun f j => if 18 ≤ f ∧ f < m ∧ j = L then w f else σ f j
theorem ls_lx_0 (σ : ls_S) (L : Nat) (w : Nat → Nat) : ls_lx σ L w 18 = σ := by
  funext f j
  exact if_neg (by omega)
theorem ls_lx_s (σ : ls_S) (L : Nat) (w : Nat → Nat) {m v : Nat} (hm : 18 ≤ m) (hv : v = w m) : mm_u (ls_lx σ L w m) m L v = ls_lx σ L w (m + 1) := by
  funext f j
  unfold ls_lx
  rw [mm_u]
  by_cases e : f = m ∧ j = L
  · rw [if_pos e, if_pos (by omega), hv, e.1]
  · rw [if_neg e]
    by_cases e2 : 18 ≤ f ∧ f < m ∧ j = L
    · rw [if_pos e2, if_pos (by omega)]
    · rw [if_neg e2, if_neg (by omega)]
theorem ls_lx_f (σ : ls_S) (L : Nat) (w : Nat → Nat) (m : Nat) {f : Nat} (h : f < 18 ∨ m ≤ f) : ls_lx σ L w m f = σ f := by
  funext j
  exact if_neg (by omega)
def ls_wv (at_ day a r b : Nat) (v : ls_V) (f : Nat) : Nat := if f = 18 then at_ else if f = 19 then day else if f = 20 then a else if f = 21 then r else if f = 22 then b else if f = 23 then v.1 else if f = 24 then v.2.1 else if f = 25 then v.2.2.1 else if f = 26 then v.2.2.2.1 else v.2.2.2.2
/-- the state with an answer more in the log -/
def ls_la (σ : ls_S) (L : Nat) (w : Nat → Nat) : ls_S := mm_u (ls_lx σ L w 28) 28 0 (L + 1)
theorem ls_la_f (σ : ls_S) (L : Nat) (w : Nat → Nat) {f : Nat} (h : f < 18 ∨ 28 < f) : ls_la σ L w f = σ f := by
  funext j
  unfold ls_la
  rw [mm_u, if_neg (by omega), ls_lx_f σ L w 28 (by omega)]
theorem ls_la_28 (σ : ls_S) (L : Nat) (w : Nat → Nat) : ls_la σ L w 28 0 = L + 1 := by
  unfold ls_la
  rw [mm_u, if_pos ⟨rfl, rfl⟩]
theorem ls_la_n (σ : ls_S) (L : Nat) (w : Nat → Nat) {f : Nat} (h : 18 ≤ f ∧ f < 28) : ls_la σ L w f L = w f := by
  unfold ls_la
  rw [mm_u, if_neg (by omega)]
  exact if_pos (by omega)
theorem ls_la_o (σ : ls_S) (L : Nat) (w : Nat → Nat) {f j : Nat} (h : 18 ≤ f ∧ f < 28) (hj : j ≠ L) : ls_la σ L w f j = σ f j := by
  unfold ls_la
  rw [mm_u, if_neg (by omega)]
  exact if_neg (by omega)
section
variable {n d l o k : Nat} {σ τ : ls_S} {κ κ1 : Nat → Nat} {B M M1 M2 : mm_M} {P : Nat → Prop}
theorem gw_df {a : Nat} (h : lc_gw P M M1) (d : lc_df M1 M2 a) (ha : P a ∨ mm_n M ≤ a) : lc_gw P M M2 := by
  have e1 : ∀ q, mm_k M2 q = mm_k M1 q := fun q => lc_df_k d q
  have e2 : ∀ q j, mm_R M2 q j = mm_R M1 q j := fun q j => lc_df_R d q j
  have e3 : ∀ q j, mm_L M2 q j = mm_L M1 q j := fun q j => congrFun (congrFun (congrArg (fun x => x.2.1) d.2.1) q) j
  have e4 : mm_n M2 = mm_n M1 := congrArg (fun x => x.2.2.1) d.2.1
  have e5 : mm_z M2 = mm_z M1 := congrArg (fun x => x.2.2.2) d.2.1
  refine ⟨by rw [e4]; exact h.1, e5.trans h.2.1, fun q hq => (e1 q).trans (h.2.2.1 q hq), fun q hq => (e1 q).trans (h.2.2.2.1 q (by rw [← e4]; exact hq)), fun q hq hn => ?_⟩
  have hne : q ≠ a := fun e => by
    rcases ha with ha | ha
    · exact hn (e ▸ ha)
    · omega
  obtain ⟨x, y, z⟩ := h.2.2.2.2 q hq hn
  exact ⟨fun j => (d.2.2 q j (fun e => hne e.1)).trans (x j), fun j => (e2 q j).trans (y j), fun j => (e3 q j).trans (z j)⟩
/-- an entry made: its cell and the memory's copy, new ones both -/
def lc_ne (M M1 : mm_M) (w : Nat → Nat) : Prop := lc_gw (fun _ => False) M M1 ∧ mm_n M1 = mm_n M + 2 ∧ mm_k M1 (mm_n M) = some (4, 0) ∧ mm_R M1 (mm_n M) 6 = some (mm_n M + 1) ∧ mm_k M1 (mm_n M + 1) = some (9, 0) ∧ (mm_I M1 (mm_n M) 0 = nI (w 18 / 480) ∧ mm_I M1 (mm_n M) 1 = nI (w 18 % 480) ∧ mm_I M1 (mm_n M) 2 = nI (w 19) ∧ mm_I M1 (mm_n M) 3 = nI (w 20) ∧ mm_I M1 (mm_n M) 4 = nI (w 21) ∧ mm_I M1 (mm_n M) 5 = nI (w 22)) ∧ ∀ k, k < 5 → mm_I M1 (mm_n M + 1) k = ls_en (23 + k) (w (23 + k))
theorem cl_newEntry (hf : ∀ q, mm_n M ≤ q → mm_k M q = none) {μ p q day a r b : Nat} {v : ls_V} (hv : lc_at M μ v) (hq : q < 480) : ∃ MD MX, f_X8_copy (mm_nw M (4, 0)) (some μ) = some (some (mm_n M + 1), MD) ∧ f_X3_init MD (mm_n M) (nI p) (nI q) (nI day) (nI a) (nI r) (nI b) (some (mm_n M + 1)) = some MX ∧ lc_ne M MX (ls_wv (480 * p + q) day a r b v) := by
  have lμ := gw_lt hf hv.1
  have g0 : lc_gw (fun _ => False) M (mm_sI (mm_sI (mm_nw (mm_nw M (4, 0)) (9, 0)) (mm_n M + 1) 1 2500) (mm_n M + 1) 3 (-1)) := gw_I (gw_I (gw_nw (gw_nw (gw_rf hf) _) _) (Or.inr (by omega)) _ _) (Or.inr (by omega)) _ _
  have kb : mm_k (mm_nw (mm_nw M (4, 0)) (9, 0)) (mm_n M + 1) = some (9, 0) := by rw [mm_kw]; exact if_pos rfl
  have ke : mm_k (mm_nw (mm_nw M (4, 0)) (9, 0)) (mm_n M) = some (4, 0) := by rw [mm_kw, if_neg (by rw [mm_nW]; omega), mm_kw, if_pos rfl]
  have z0 : ∀ j, mm_I (mm_nw (mm_nw M (4, 0)) (9, 0)) (mm_n M + 1) j = 0 := fun j => by rw [mm_Iw]; exact if_pos rfl
  have atb : lc_at (mm_sI (mm_sI (mm_nw (mm_nw M (4, 0)) (9, 0)) (mm_n M + 1) 1 2500) (mm_n M + 1) 3 (-1)) (mm_n M + 1) (0, 2500, 0, 0, 0) := by
    refine ⟨kb, ?_, ?_, ?_, ?_, ?_⟩
    · rw [mm_II, if_neg (by omega), mm_II, if_neg (by omega), z0]; rfl
    · rw [mm_II, if_neg (by omega), mm_II, if_pos ⟨rfl, rfl⟩]; rfl
    · rw [mm_II, if_neg (by omega), mm_II, if_neg (by omega), z0]; rfl
    · rw [mm_II, if_pos ⟨rfl, rfl⟩]; decide
    · rw [mm_II, if_neg (by omega), mm_II, if_neg (by omega), z0]; rfl
  have atm : lc_at (mm_sI (mm_sI (mm_nw (mm_nw M (4, 0)) (9, 0)) (mm_n M + 1) 1 2500) (mm_n M + 1) 3 (-1)) μ v := by
    obtain ⟨sI, -, -⟩ := g0.2.2.2.2 μ lμ (fun z => z)
    exact ⟨(g0.2.2.1 μ lμ).trans hv.1, (sI 0).trans hv.2.1, (sI 1).trans hv.2.2.1, (sI 2).trans hv.2.2.2.1, (sI 3).trans hv.2.2.2.2.1, (sI 4).trans hv.2.2.2.2.2⟩
  have ini : f_X8_init (mm_nw (mm_nw M (4, 0)) (9, 0)) (mm_n M + 1) = some (mm_sI (mm_sI (mm_nw (mm_nw M (4, 0)) (9, 0)) (mm_n M + 1) 1 2500) (mm_n M + 1) 3 (-1)) := bx (pe_pI 1 _ kb) (bx (pe_pI 3 _ (show mm_k (mm_sI (mm_nw (mm_nw M (4, 0)) (9, 0)) (mm_n M + 1) 1 2500) (mm_n M + 1) = some (9, 0) from kb)) rfl)
  have n0 : mm_n (mm_sI (mm_sI (mm_nw (mm_nw M (4, 0)) (9, 0)) (mm_n M + 1) 1 2500) (mm_n M + 1) 3 (-1)) = mm_n M + 2 := rfl
  have ke0 : mm_k (mm_sI (mm_sI (mm_nw (mm_nw M (4, 0)) (9, 0)) (mm_n M + 1) 1 2500) (mm_n M + 1) 3 (-1)) (mm_n M) = some (4, 0) := ke
  generalize mm_sI (mm_sI (mm_nw (mm_nw M (4, 0)) (9, 0)) (mm_n M + 1) 1 2500) (mm_n M + 1) 3 (-1) = M4 at *
  obtain ⟨MD, fD, dD, aD⟩ := lc_become atb atm (by omega)
  have gD := gw_df g0 dD (Or.inr (by omega))
  have nD : mm_n MD = mm_n M + 2 := (congrArg (fun x => x.2.2.1) dD.2.1).trans n0
  have keD : mm_k MD (mm_n M) = some (4, 0) := (lc_df_k dD _).trans ke0
  have cp : f_X8_copy (mm_nw M (4, 0)) (some μ) = some (some (mm_n M + 1), MD) := bx (a := M4) ini (bx (pe_rc atb.1) (bx fD rfl))
  refine ⟨MD, mm_sR (mm_sI (mm_sI (mm_sI (mm_sI (mm_sI (mm_sI MD (mm_n M) 0 (nI p)) (mm_n M) 1 (nI q)) (mm_n M) 2 (nI day)) (mm_n M) 3 (nI a)) (mm_n M) 4 (nI r)) (mm_n M) 5 (nI b)) (mm_n M) 6 (some (mm_n M + 1)), cp, ?_, ?_⟩
  · refine bx (pe_pI 0 _ keD) (bx (pe_pI 1 _ ?_) (bx (pe_pI 2 _ ?_) (bx (pe_pI 3 _ ?_) (bx (pe_pI 4 _ ?_) (bx (pe_pI 5 _ ?_) (bx (pe_pR 6 _ ?_) rfl)))))) <;> exact keD
  · have g : lc_gw (fun _ => False) M (mm_sR (mm_sI (mm_sI (mm_sI (mm_sI (mm_sI (mm_sI MD (mm_n M) 0 (nI p)) (mm_n M) 1 (nI q)) (mm_n M) 2 (nI day)) (mm_n M) 3 (nI a)) (mm_n M) 4 (nI r)) (mm_n M) 5 (nI b)) (mm_n M) 6 (some (mm_n M + 1))) := gw_R (gw_I (gw_I (gw_I (gw_I (gw_I (gw_I gD (Or.inr (Nat.le_refl _)) _ _) (Or.inr (Nat.le_refl _)) _ _) (Or.inr (Nat.le_refl _)) _ _) (Or.inr (Nat.le_refl _)) _ _) (Or.inr (Nat.le_refl _)) _ _) (Or.inr (Nat.le_refl _)) _ _) (Or.inr (Nat.le_refl _)) _ _
    refine ⟨g, nD, keD, by rw [mm_RR, if_pos ⟨rfl, rfl⟩], aD.1, ⟨?_, ?_, ?_, ?_, ?_, ?_⟩, fun k hk => ?_⟩
    · rw [mm_IR, mm_II, if_neg (by omega), mm_II, if_neg (by omega), mm_II, if_neg (by omega), mm_II, if_neg (by omega), mm_II, if_neg (by omega), mm_II, if_pos ⟨rfl, rfl⟩]
      show nI p = nI ((480 * p + q) / 480)
      congr 1; omega
    · rw [mm_IR, mm_II, if_neg (by omega), mm_II, if_neg (by omega), mm_II, if_neg (by omega), mm_II, if_neg (by omega), mm_II, if_pos ⟨rfl, rfl⟩]
      show nI q = nI ((480 * p + q) % 480)
      congr 1; omega
    · rw [mm_IR, mm_II, if_neg (by omega), mm_II, if_neg (by omega), mm_II, if_neg (by omega), mm_II, if_pos ⟨rfl, rfl⟩]
      rfl
    · rw [mm_IR, mm_II, if_neg (by omega), mm_II, if_neg (by omega), mm_II, if_pos ⟨rfl, rfl⟩]
      rfl
    · rw [mm_IR, mm_II, if_neg (by omega), mm_II, if_pos ⟨rfl, rfl⟩]
      rfl
    · rw [mm_IR, mm_II, if_pos ⟨rfl, rfl⟩]
      rfl
    · rw [mm_IR, mm_II, if_neg (by omega), mm_II, if_neg (by omega), mm_II, if_neg (by omega), mm_II, if_neg (by omega), mm_II, if_neg (by omega), mm_II, if_neg (by omega)]
      have : k = 0 ∨ k = 1 ∨ k = 2 ∨ k = 3 ∨ k = 4 := by omega
      rcases this with rfl | rfl | rfl | rfl | rfl
      · exact aD.2.1
      · exact aD.2.2.1
      · exact aD.2.2.2.1
      · exact aD.2.2.2.2.1
      · exact aD.2.2.2.2.2
/-- an entry put behind the others -/
theorem cl_logAdd (h : lc n σ B M) {w : Nat → Nat} (h28 : σ 28 0 ≤ 512) (hn : lc_ne M M1 w) : ∃ M2, f_Jx4a65c_add_9ea2d M1 (some (n + 11)) (some (mm_n M)) = some (1, M2) ∧ mm_k M1 (n + 11) = some (0, 0) ∧ lc n (ls_la σ (σ 28 0) w) B M2 ∧ (∀ p, p < 5 → ∀ c, c < σ 3 0 → ∀ s, s < σ 0 c → lc_mu n M2 p c s = lc_mu n M p c s) ∧ ∀ q, q < mm_n M → ∀ x, mm_k M q = some x → x.1 ≠ 0 → x.1 ≠ 17 → (∀ k, mm_I M2 q k = mm_I M q k) ∧ mm_k M2 q = some x := by
  obtain ⟨g9, n9, a1, a2, a3, a4, a5⟩ := hn
  have hlg : lg n (ls_la σ (σ 28 0) w) (fun _ => σ 3 0) (σ 3 0) (σ 28 0) B M := lg_σ (lg_of h) (fun p hp c hc => by rw [ls_la_f σ _ w (by omega)]) (fun p hp c hc s hs k hk => by have := ls_fl_b k hk; rw [ls_la_f σ _ w (by omega)]) (fun c hc => by rw [ls_la_f σ _ w (by omega), ls_la_f σ _ w (by omega)]; exact ⟨rfl, fun _ _ => rfl⟩) (fun i hi f h1 h2 => ls_la_o σ _ w (by omega) (by omega)) (fun f hf => ls_la_f σ _ w (by omega))
  obtain ⟨zz, kz, hn64, hf⟩ := id hlg.2.1
  have lo : (11 : Nat) ∈ lc_ls := by decide
  have kl := lg_ko hlg lo
  have lt := gw_lt hf kl
  have hL := hlg.2.2.1.2.2.1
  obtain ⟨L9, el9, it9, s9⟩ := lg_li hlg (o := 4) (by decide) g9 (fun q z => z.elim) lo (by decide) hL
  have kl9 : mm_k M1 (n + 11) = some (0, 0) := (g9.2.2.1 _ lt).trans kl
  obtain ⟨M2, f1, g1, L1, s1, e1, t1, o1⟩ := cl_add (M := M1) kl9 L9 (s9.trans hlg.2.2.2.1.2.2) h28 a1 (by decide) (by rw [g9.2.1, g9.2.2.1 _ (gw_lt hf kz)]; exact kz) (by have := g9.1; omega) g9.2.2.2.1 (fun i hi => ⟨4, by decide, by
    rw [it9]
    have q := ((hlg.2.2.2.2.2.2.2.2.1 i hi).1).1
    exact (g9.2.2.1 _ (gw_lt hf q)).trans q⟩)
  have hel : lc_el M (n + 11) < mm_n M := by
    rcases hL with ⟨-, hr⟩ | ⟨cap, c1, c2, c3, c4, c5, c6, c7, c8⟩
    · rw [show lc_el M (n + 11) = mm_z M by unfold lc_el; rw [hr]; rfl]
      exact gw_lt hf kz
    · exact gw_lt hf c6
  have g : lc_gw (fun q => q = n + 11 ∨ (q = lc_el M (n + 11) ∧ q ≠ mm_z M)) M M2 := gw_tr (gw_w g9 (fun q z => z.elim)) g1 (fun q hq z => by rw [el9, g9.2.1] at z; exact z)
  have hP : ∀ q, (q = n + 11 ∨ (q = lc_el M (n + 11) ∧ q ≠ mm_z M)) → q = n + 11 ∨ (q = lc_el M (n + 11) ∧ q ≠ mm_z M) := fun q z => z
  have li := fun {o2 k} (ho2 : o2 ∈ lc_ls) (hne : o2 ≠ 11) (hL : lc_L n M (n + o2) k) => lg_li hlg lo g hP ho2 hne hL
  have lne : ∀ q, q < 5 → lc_lo q + 1 ≠ 11 := fun q hq e => by have := lc_lov hq; omega
  have een : lc_en n M2 (σ 28 0) = mm_n M := t1
  have new : ∀ q, mm_n M ≤ q → q < mm_n M1 → mm_k M2 q = mm_k M1 q ∧ (∀ k, mm_I M2 q k = mm_I M1 q k) ∧ ∀ k, mm_R M2 q k = mm_R M1 q k := fun q hq hq2 => by
    have z := g1.2.2.2.2 q hq2 (fun z => by rw [el9] at z; rcases z with z | z <;> omega)
    exact ⟨g1.2.2.1 q hq2, z.1, z.2.1⟩
  have ebf : lc_bf n M2 (σ 28 0) = mm_n M + 1 := by
    unfold lc_bf
    rw [een, (new _ (Nat.le_refl _) (by omega)).2.2, a2]; rfl
  have fin : lg n (ls_la σ (σ 28 0) w) (fun _ => σ 3 0) (σ 3 0) (σ 28 0 + 1) B M2 := by
    refine lg_step hlg lo g hP ⟨fun q hq => (li (lo_in hq) (lne q hq) (hlg.2.2.1.1 q hq)).1, (li (o2 := 4) (by decide) (by omega) hlg.2.2.1.2.1).1, L1, lg_ds hlg lo g hP ?_⟩ ⟨fun q hq => (li (lo_in hq) (lne q hq) (hlg.2.2.1.1 q hq)).2.2.2.trans (hlg.2.2.2.1.1 q hq), (li (o2 := 4) (by decide) (by omega) hlg.2.2.1.2.1).2.2.2.trans hlg.2.2.2.1.2.1, s1⟩ (fun q hq c _ hc2 => (li (lo_in hq) (lne q hq) (hlg.2.2.1.1 q hq)).2.2.1 c) (fun c _ hc => (li (o2 := 4) (by decide) (by omega) hlg.2.2.1.2.1).2.2.1 c) (fun i _ hi => (o1 i hi).trans (it9 i)) (fun q hq c hc hc2 => absurd hc hc2) (fun c hc hc2 => absurd hc hc2) (fun i hi hi2 => ?_) (fun q hq c hc hc2 => absurd hc hc2)
    · rcases e1 with ⟨e, -⟩ | e
      · exact Or.inl (e.trans el9)
      · exact Or.inr (by have := g9.1; omega)
    · have e : i = σ 28 0 := by omega
      subst e
      refine ⟨?_, ?_, by rw [ebf]; omega⟩
      · unfold lg_e
        rw [een, ebf]
        exact ⟨((new _ (Nat.le_refl _) (by omega)).1).trans a1, by omega, ((new _ (Nat.le_refl _) (by omega)).2.2 6).trans a2, ((new _ (by omega) (by omega)).1).trans a3, by omega⟩
      · unfold lg_eI
        have nI1 := (new _ (Nat.le_refl _) (by omega)).2.1
        rw [een, ebf, nI1, nI1, nI1, nI1, nI1, nI1, ls_la_n σ _ w (by omega), ls_la_n σ _ w (by omega), ls_la_n σ _ w (by omega), ls_la_n σ _ w (by omega), ls_la_n σ _ w (by omega)]
        refine ⟨a4, fun k hk => ?_⟩
        rw [(new _ (by omega) (by omega)).2.1, ls_la_n σ _ w (by omega)]
        exact a5 k hk
  have S := fun {q x} (hk : mm_k M q = some x) (h0 : x.1 ≠ 0 ∧ x.1 ≠ 17) => lg_same hlg lo g hP hk h0
  refine ⟨M2, f1, kl9, lg_to (by rw [ls_la_f σ _ w (f := 3) (by omega), ls_la_28]; exact fin), fun p hp c hc s hs => ?_, fun q hq x hx h0 h17 => ⟨(S hx ⟨h0, h17⟩).2.1, (S hx ⟨h0, h17⟩).1⟩⟩
  have e1 : lc_hd n M2 p c = lc_hd n M p c := (li (lo_in hp) (lne p hp) (hlg.2.2.1.1 p hp)).2.2.1 c
  obtain ⟨b1, b2, b3, b4, b5, b6⟩ := h.1.2.2.2.1 p hp c hc
  have e2 : lc_ma n M2 p c = lc_ma n M p c := by
    unfold lc_ma
    rw [e1, (S b1 (by decide)).2.2.1]
  unfold lc_mu
  rw [e2, (S b4 n16).2.2.1]
end
