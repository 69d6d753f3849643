/-- the memory grown: what was there stands as it was, but for the cells of which P holds -/
def lc_gw (P : Nat → Prop) (M M1 : mm_M) : Prop := mm_n M ≤ mm_n M1 ∧ mm_z M1 = mm_z M ∧ (∀ q, q < mm_n M → mm_k M1 q = mm_k M q) ∧ (∀ q, mm_n M1 ≤ q → mm_k M1 q = none) ∧ ∀ q, q < mm_n M → ¬ P q → (∀ k, mm_I M1 q k = mm_I M q k) ∧ (∀ k, mm_R M1 q k = mm_R M q k) ∧ ∀ k, mm_L M1 q k = mm_L M q k
section
variable {P Q : Nat → Prop} {M M1 M2 : mm_M}
theorem gw_rf (h : ∀ q, mm_n M ≤ q → mm_k M q = none) : lc_gw P M M := ⟨Nat.le_refl _, rfl, fun _ _ => rfl, h, fun _ _ _ => ⟨fun _ => rfl, fun _ => rfl, fun _ => rfl⟩⟩
theorem gw_tr (h : lc_gw P M M1) (h2 : lc_gw Q M1 M2) (hQ : ∀ q, q < mm_n M → Q q → P q) : lc_gw P M M2 :=
  ⟨Nat.le_trans h.1 h2.1, h2.2.1.trans h.2.1, fun q hq => (h2.2.2.1 q (by have := h.1; omega)).trans (h.2.2.1 q hq), h2.2.2.2.1, fun q hq hn => by
    obtain ⟨a, b, c⟩ := h.2.2.2.2 q hq hn
    obtain ⟨a2, b2, c2⟩ := h2.2.2.2.2 q (by have := h.1; omega) (fun z => hn (hQ q hq z))
    exact ⟨fun k => (a2 k).trans (a k), fun k => (b2 k).trans (b k), fun k => (c2 k).trans (c k)⟩⟩
theorem gw_nw (h : lc_gw P M M1) (kd : Nat × Nat) : lc_gw P M (mm_nw M1 kd) :=
  ⟨by rw [mm_nW]; have := h.1; omega, h.2.1, fun q hq => by rw [mm_kw, if_neg (by have := h.1; omega)]; exact h.2.2.1 q hq, fun q hq => by rw [mm_nW] at hq; rw [mm_kw, if_neg (by omega)]; exact h.2.2.2.1 q (by omega), fun q hq hn => by
    have e : ¬ q = mm_n M1 := by have := h.1; omega
    obtain ⟨a, b, c⟩ := h.2.2.2.2 q hq hn
    exact ⟨fun k => by rw [mm_Iw, if_neg e]; exact a k, fun k => by rw [mm_Rw, if_neg e]; exact b k, fun k => by rw [mm_Lw, if_neg e]; exact c k⟩⟩
theorem gw_I (h : lc_gw P M M1) {a : Nat} (ha : P a ∨ mm_n M ≤ a) (k : Nat) (v : Int32) : lc_gw P M (mm_sI M1 a k v) := ⟨h.1, h.2.1, h.2.2.1, h.2.2.2.1, fun q hq hn => by
    have e : ¬ q = a := fun e => by
      rcases ha with ha | ha
      · exact hn (e ▸ ha)
      · omega
    obtain ⟨x, b, c⟩ := h.2.2.2.2 q hq hn
    exact ⟨fun j => by rw [mm_II, if_neg (fun z => e z.1)]; exact x j, b, c⟩⟩
theorem gw_R (h : lc_gw P M M1) {a : Nat} (ha : P a ∨ mm_n M ≤ a) (k : Nat) (v : Option Nat) : lc_gw P M (mm_sR M1 a k v) := ⟨h.1, h.2.1, h.2.2.1, h.2.2.2.1, fun q hq hn => by
    have e : ¬ q = a := fun e => by
      rcases ha with ha | ha
      · exact hn (e ▸ ha)
      · omega
    obtain ⟨x, b, c⟩ := h.2.2.2.2 q hq hn
    exact ⟨x, fun j => by rw [mm_RR, if_neg (fun z => e z.1)]; exact b j, c⟩⟩
theorem mm_Rc (M : mm_M) (a b n c j : Nat) : mm_R (mm_cp M a b n) c j = if c = b ∧ j < n then mm_R M a j else mm_R M c j := rfl
theorem gw_cp (h : lc_gw P M M1) {a b n : Nat} (hb : mm_n M ≤ b) : lc_gw P M (mm_cp M1 a b n) := ⟨h.1, h.2.1, h.2.2.1, h.2.2.2.1, fun q hq hn => by
    obtain ⟨x, y, z⟩ := h.2.2.2.2 q hq hn
    exact ⟨x, fun j => by rw [mm_Rc, if_neg (by omega)]; exact y j, z⟩⟩
theorem gw_w (h : lc_gw P M M1) (hQ : ∀ q, P q → Q q) : lc_gw Q M M1 := ⟨h.1, h.2.1, h.2.2.1, h.2.2.2.1, fun q hq hn => h.2.2.2.2 q hq (fun z => hn (hQ q z))⟩
theorem gw_lt {q : Nat} {x : Nat × Nat} (hf : ∀ q, mm_n M ≤ q → mm_k M q = none) (hk : mm_k M q = some x) : q < mm_n M := by
  rcases Nat.lt_or_ge q (mm_n M) with h | h
  · exact h
  · rw [hf q h] at hk; cases hk
-- lists: add, remove
theorem cl_copyOf {a n m : Nat} (h : mm_k M a = some (17, n)) (hn : n ≤ m) (hm : m ≤ 1000) (hel : mm_el M a n) : f_J7_copyOf_1904c M (some a) (nI m) = some (some (mm_n M), mm_cp (mm_nw M (17, m)) a (mm_n M) n) := by
  have e : (nI m).toNatClampNeg = m := nI_clamp (by omega)
  unfold f_J7_copyOf_1904c
  simp only [pe_al h]
  rw [e]
  exact if_pos ⟨by omega, nI_pos (by omega), hm, hn, hel⟩
theorem cl_newLength {cap : Nat} (h : 10 ≤ cap) (h2 : cap ≤ 600) : f_J8_newLength_cabcc M (nI cap) (nI cap + 1 - nI cap) (nI cap >>> (1 &&& 31)) = some (nI (cap + cap / 2), M) := by
  have e1 : nI cap + 1 - nI cap = nI 1 := by rw [nI_1, pk_sub (by omega)]; congr 1; omega
  have e2 : nI cap >>> ((1 : Int32) &&& 31) = nI (cap / 2) := pk_shrN (by omega) (1 &&& 31) 1 (by decide)
  rw [e1, e2]
  have e3 : (if nI 1 < nI (cap / 2) then nI (cap / 2) else nI 1) = nI (cap / 2) := if_pos (nI_lt (by omega) (by omega))
  show (if (nI cap + (if nI 1 < nI (cap / 2) then nI (cap / 2) else nI 1)) ≤ 0 then _ else f_J8_newLength_cabcc_13 M (nI cap) (nI 1) (nI cap + (if nI 1 < nI (cap / 2) then nI (cap / 2) else nI 1))) = _
  rw [e3, nI_add]
  exact iff_ (nI_nle (by omega) (by omega)) (iff_ (nI_nlt (a := 2147483639) (b := cap + cap / 2) (by omega) (by omega)) rfl)
theorem cl_addF {n a k b w e cap : Nat} {it : Nat → Nat} (ka : mm_k M a = some (0, 0)) (hae : a ≠ e) (hr : mm_R M a 1 = some e) (kb : mm_k M b = some (w, 0)) (hw : w < 12) (ke : mm_k M e = some (17, cap)) (hk : k < cap) (h10 : 10 ≤ cap) (hcap : cap ≤ 1000) (hn : n + 63 ≤ e) (h1 : ∀ i, i < k → mm_R M e i = some (it i)) (h2 : ∀ i, k ≤ i → i < cap → mm_R M e i = none) : ∃ M1, f_Jx4a65c_add_72be8_11 M (some a) (some b) (some e) (nI k) = some M1 ∧ M1 = mm_sI (mm_sR M e k (some b)) a 2 (nI (k + 1)) ∧ lc_L n M1 a (k + 1) ∧ mm_I M1 a 2 = nI (k + 1) ∧ lc_el M1 a = e ∧ lc_it M1 a k = b ∧ ∀ i, i < k → lc_it M1 a i = it i := by
  refine ⟨mm_sI (mm_sR M e k (some b)) a 2 (nI (k + 1)), bx (pe_tR ke kb ⟨hw, Or.inr (Or.inr rfl)⟩ hk (by omega)) (bx (a := mm_sI (mm_sR M e k (some b)) a 2 (nI (k + 1))) (by rw [nI_1]; exact pe_pI 2 _ (show mm_k (mm_sR M e k (some b)) a = some (0, 0) from ka)) rfl), rfl, ?_⟩
  have hR1 : mm_R (mm_sI (mm_sR M e k (some b)) a 2 (nI (k + 1))) a 1 = some e := by
    rw [mm_RI, mm_RR, if_neg (fun q => hae q.1)]
    exact hr
  have eel : lc_el (mm_sI (mm_sR M e k (some b)) a 2 (nI (k + 1))) a = e := by unfold lc_el; rw [hR1]; rfl
  have rd : ∀ i, mm_R (mm_sI (mm_sR M e k (some b)) a 2 (nI (k + 1))) e i = if i = k then some b else mm_R M e i := fun i => by
    rw [mm_RI, mm_RR]
    by_cases e2 : i = k
    · rw [if_pos ⟨rfl, e2⟩, if_pos e2]
    · rw [if_neg (fun q => e2 q.2), if_neg e2]
  have eit : ∀ i, lc_it (mm_sI (mm_sR M e k (some b)) a 2 (nI (k + 1))) a i = if i = k then b else (mm_R M e i).getD 0 := fun i => by
    unfold lc_it
    rw [eel, rd]
    split <;> rfl
  refine ⟨Or.inr ⟨cap, by omega, h10, hcap, by rw [eel]; exact hR1, by rw [eel]; exact hn, by rw [eel]; exact ke, fun i hi => ?_, fun i hi hi2 => ?_⟩, by rw [mm_II, if_pos ⟨rfl, rfl⟩], eel, by rw [eit, if_pos rfl], fun i hi => by rw [eit, if_neg (by omega), h1 i hi]; rfl⟩
  · rw [eel, rd, eit]
    by_cases e2 : i = k
    · rw [if_pos e2, if_pos e2]
    · rw [if_neg e2, if_neg e2, h1 i (by omega)]
      rfl
  · rw [eel, rd, if_neg (by omega)]
    exact h2 i (by omega) hi2
theorem cl_add {n a k b w : Nat} (ka : mm_k M a = some (0, 0)) (hL : lc_L n M a k) (hs : mm_I M a 2 = nI k) (hk : k ≤ 512) (kb : mm_k M b = some (w, 0)) (hw : w < 12) (kz : mm_k M (mm_z M) = some (18, 0)) (hn : n + 63 ≤ mm_n M) (hf : ∀ q, mm_n M ≤ q → mm_k M q = none) (hit : ∀ i, i < k → ∃ w, w < 12 ∧ mm_k M (lc_it M a i) = some (w, 0)) : ∃ M1, f_Jx4a65c_add_9ea2d M (some a) (some b) = some (1, M1) ∧ lc_gw (fun q => q = a ∨ (q = lc_el M a ∧ q ≠ mm_z M)) M M1 ∧ lc_L n M1 a (k + 1) ∧ mm_I M1 a 2 = nI (k + 1) ∧ (lc_el M1 a = lc_el M a ∧ lc_el M a ≠ mm_z M ∨ mm_n M ≤ lc_el M1 a) ∧ lc_it M1 a k = b ∧ ∀ i, i < k → lc_it M1 a i = lc_it M a i := by
  have la := gw_lt hf ka
  have lb := gw_lt hf kb
  have ka7 : mm_k (mm_sI M a 0 (mm_I M a 0 + 1)) a = some (0, 0) := ka
  have hs7 : mm_I (mm_sI M a 0 (mm_I M a 0 + 1)) a 2 = nI k := by rw [mm_II, if_neg (by omega)]; exact hs
  have X : ∀ {o M1}, mm_R M a 1 = o → f_Jx4a65c_add_72be8 (mm_sI M a 0 (mm_I M a 0 + 1)) (some a) (some b) o (nI k) = some M1 → f_Jx4a65c_add_9ea2d M (some a) (some b) = some (1, M1) := fun e q => bx (pe_fI 0 ka) (bx (pe_pI 0 _ ka) (bx (pfR ka7 e) (bx (pfI ka7 hs7) (bx (pe_rc ka7) (bx q rfl)))))
  have g7 : lc_gw (fun q => q = a ∨ (q = lc_el M a ∧ q ≠ mm_z M)) M (mm_sI M a 0 (mm_I M a 0 + 1)) := gw_I (gw_rf hf) (Or.inl (Or.inl rfl)) 0 _
  have hR7 : ∀ c j, mm_R (mm_sI M a 0 (mm_I M a 0 + 1)) c j = mm_R M c j := fun _ _ => rfl
  have hk7 : ∀ c, mm_k (mm_sI M a 0 (mm_I M a 0 + 1)) c = mm_k M c := fun _ => rfl
  have hn7 : mm_n (mm_sI M a 0 (mm_I M a 0 + 1)) = mm_n M := rfl
  have hz7 : mm_z (mm_sI M a 0 (mm_I M a 0 + 1)) = mm_z M := rfl
  generalize mm_sI M a 0 (mm_I M a 0 + 1) = M7 at *
  rcases hL with ⟨rfl, hr⟩ | ⟨cap, c1, c2, c3, c4, c5, c6, c7, c8⟩
  · have hel : lc_el M a = mm_z M := by unfold lc_el; rw [hr]; rfl
    have k8 : ∀ c, c < mm_n M → mm_k (mm_nw M7 (17, 10)) c = mm_k M c := fun c hc => by rw [mm_kw, if_neg (by omega)]; exact hk7 c
    obtain ⟨M1, f1, rfl, L1, s1, l1, t1, o1⟩ := cl_addF (M := mm_sR (mm_nw M7 (17, 10)) a 1 (some (mm_n M7))) (n := n) (a := a) (k := 0) (b := b) (w := w) (e := mm_n M7) (cap := 10) (it := fun _ => 0) ((k8 a la).trans ka) (by omega) (by rw [mm_RR, if_pos ⟨rfl, rfl⟩]) ((k8 b lb).trans kb) hw (by rw [mm_kR, mm_kw, if_pos rfl]) (by omega) (by omega) (by omega) (by omega) (fun i hi => absurd hi (Nat.not_lt_zero i)) (fun i _ _ => by rw [mm_RR, if_neg (by omega), mm_Rw, if_pos rfl])
    have kz7 : mm_k M7 (mm_z M) = some (18, 0) := (hk7 _).trans kz
    have gr : f_Jx4a65c_grow_d5877 M7 (some a) = some (some (mm_n M7), mm_sR (mm_nw M7 (17, 10)) a 1 (some (mm_n M7))) := bx (pfI ka7 hs7) (bx (pe_rc ka7) (b2x (bx (pfR ka7 ((hR7 _ _).trans hr)) (bx (pe_ln kz7 (by omega)) (iff_ (by decide) (bx (pfR ka7 ((hR7 _ _).trans hr)) (ift (by rw [hz7]) (bx (a := mm_nw M7 (17, 10)) (by rw [show (if (10 : Int32) < nI 0 + 1 then nI 0 + 1 else 10) = nI 10 by decide]; exact pe_na (by omega) (by omega)) (bx (pe_pR 1 _ ((k8 a la).trans ka)) rfl))))))) rfl))
    refine ⟨_, X hr (bx (pe_ln kz7 (by omega)) (ift rfl (bx (pe_rc ka7) (b2x gr f1)))), gw_I (gw_R (gw_R (gw_nw g7 _) (Or.inl (Or.inl rfl)) _ _) (Or.inr (by omega)) _ _) (Or.inl (Or.inl rfl)) _ _, L1, s1, Or.inr (by rw [l1]; omega), t1, fun i hi => absurd hi (Nat.not_lt_zero i)⟩
  · have hez : lc_el M a ≠ mm_z M := fun q => by rw [q, kz] at c6; cases c6
    have le := gw_lt hf c6
    have hae : a ≠ lc_el M a := fun q => by rw [← q, ka] at c6; cases c6
    have ke7 : mm_k M7 (lc_el M a) = some (17, cap) := (hk7 _).trans c6
    by_cases hc : k = cap
    · have k8 : ∀ c, c < mm_n M → mm_k (mm_nw M7 (17, cap + cap / 2)) c = mm_k M c := fun c hc => by rw [mm_kw, if_neg (by omega)]; exact hk7 c
      have rN : ∀ i, i < cap → mm_R (mm_sR (mm_cp (mm_nw M7 (17, cap + cap / 2)) (lc_el M a) (mm_n M7) cap) a 1 (some (mm_n M7))) (mm_n M7) i = mm_R M (lc_el M a) i := fun i hi => by
        rw [mm_RR, if_neg (by omega), mm_Rc, if_pos ⟨rfl, hi⟩, mm_Rw, if_neg (by omega)]
        exact hR7 _ _
      have rN2 : ∀ i, cap ≤ i → mm_R (mm_sR (mm_cp (mm_nw M7 (17, cap + cap / 2)) (lc_el M a) (mm_n M7) cap) a 1 (some (mm_n M7))) (mm_n M7) i = none := fun i hi => by
        rw [mm_RR, if_neg (by omega), mm_Rc, if_neg (by omega), mm_Rw, if_pos rfl]
      obtain ⟨M1, f1, rfl, L1, s1, l1, t1, o1⟩ := cl_addF (M := mm_sR (mm_cp (mm_nw M7 (17, cap + cap / 2)) (lc_el M a) (mm_n M7) cap) a 1 (some (mm_n M7))) (n := n) (a := a) (k := k) (b := b) (w := w) (e := mm_n M7) (cap := cap + cap / 2) (it := lc_it M a) ((k8 a la).trans ka) (by omega) (by rw [mm_RR, if_pos ⟨rfl, rfl⟩]) ((k8 b lb).trans kb) hw (show mm_k (mm_nw M7 (17, cap + cap / 2)) (mm_n M7) = _ by rw [mm_kw, if_pos rfl]) (by omega) (by omega) (by omega) (by omega) (fun i hi => by rw [rN i (by omega)]; exact c7 i hi) (fun i hi _ => rN2 i (by omega))
      have hel : mm_el M7 (lc_el M a) cap := fun j hj y hy => by
        rw [hR7, c7 j (by omega)] at hy
        obtain ⟨w2, h1, h2⟩ := hit j (by omega)
        cases hy
        exact ⟨w2, (hk7 _).trans h2, h1⟩
      have e1 : mm_R M7 a 1 = some (lc_el M a) := (hR7 _ _).trans c4
      have gr : f_Jx4a65c_grow_d5877 M7 (some a) = some (some (mm_n M7), mm_sR (mm_cp (mm_nw M7 (17, cap + cap / 2)) (lc_el M a) (mm_n M7) cap) a 1 (some (mm_n M7))) := bx (pfI ka7 hs7) (bx (pe_rc ka7) (b2x (bx (pfR ka7 e1) (bx (pe_ln ke7 (by omega)) (ift (nI_lt (a := 0) (by omega) (by omega)) (b2x (by rw [hc]; exact cl_newLength c2 (by omega)) (bx (pfR ka7 e1) (b2x (cl_copyOf ke7 (by omega) (by omega) hel) (bx (pe_pR 1 _ ((k8 a la).trans ka)) rfl))))))) rfl))
      refine ⟨_, X c4 (bx (pe_ln ke7 (by omega)) (ift (by rw [hc]) (bx (pe_rc ka7) (b2x gr f1)))), gw_I (gw_R (gw_R (gw_cp (gw_nw g7 _) (by omega)) (Or.inl (Or.inl rfl)) _ _) (Or.inr (by omega)) _ _) (Or.inl (Or.inl rfl)) _ _, L1, s1, Or.inr (by rw [l1]; omega), t1, o1⟩
    · obtain ⟨M1, f1, rfl, L1, s1, l1, t1, o1⟩ := cl_addF (M := M7) (n := n) (a := a) (k := k) (b := b) (w := w) (e := lc_el M a) (cap := cap) (it := lc_it M a) ka7 hae ((hR7 _ _).trans c4) ((hk7 _).trans kb) hw ke7 (by omega) c2 c3 c5 (fun i hi => (hR7 _ _).trans (c7 i hi)) (fun i hi hi2 => (hR7 _ _).trans (c8 i hi hi2))
      exact ⟨_, X c4 (bx (pe_ln ke7 (by omega)) (iff_ (fun q => hc ((nI_eq (by omega) (by omega)).mp q)) f1)), gw_I (gw_R g7 (Or.inl (Or.inr ⟨rfl, hez⟩)) _ _) (Or.inl (Or.inl rfl)) _ _, L1, s1, Or.inl ⟨l1, hez⟩, t1, o1⟩
theorem cl_remove {n a k : Nat} (ka : mm_k M a = some (0, 0)) (hL : lc_L n M a (k + 1)) (hs : mm_I M a 2 = nI (k + 1)) (hk : k ≤ 512) (kz : mm_k M (mm_z M) = some (18, 0)) (hf : ∀ q, mm_n M ≤ q → mm_k M q = none) : ∃ M1, f_Jx4a65c_remove_915e3 M (some a) (nI k) = some (some (lc_it M a k), M1) ∧ lc_gw (fun q => q = a ∨ (q = lc_el M a ∧ q ≠ mm_z M)) M M1 ∧ lc_L n M1 a k ∧ mm_I M1 a 2 = nI k ∧ lc_el M1 a = lc_el M a ∧ ∀ i, i < k → lc_it M1 a i = lc_it M a i := by
  rcases hL with ⟨h0, -⟩ | ⟨cap, c1, c2, c3, c4, c5, c6, c7, c8⟩
  · omega
  · have hez : lc_el M a ≠ mm_z M := fun q => by rw [q, kz] at c6; cases c6
    have hae : a ≠ lc_el M a := fun q => by rw [← q, ka] at c6; cases c6
    have e1 : nI (k + 1) - 1 = nI k := nI_pred k
    have hs7 : mm_I (mm_sI M a 0 (mm_I M a 0 + 1)) a 2 = nI (k + 1) := by rw [mm_II, if_neg (by omega)]; exact hs
    have hR1 : mm_R (mm_sR (mm_sI (mm_sI M a 0 (mm_I M a 0 + 1)) a 2 (nI k)) (lc_el M a) k none) a 1 = some (lc_el M a) := by
      rw [mm_RR, if_neg (fun q => hae q.1)]
      exact c4
    have eel : lc_el (mm_sR (mm_sI (mm_sI M a 0 (mm_I M a 0 + 1)) a 2 (nI k)) (lc_el M a) k none) a = lc_el M a := by
      show (mm_R (mm_sR (mm_sI (mm_sI M a 0 (mm_I M a 0 + 1)) a 2 (nI k)) (lc_el M a) k none) a 1).getD 0 = _
      rw [hR1]; rfl
    have rd : ∀ i, mm_R (mm_sR (mm_sI (mm_sI M a 0 (mm_I M a 0 + 1)) a 2 (nI k)) (lc_el M a) k none) (lc_el M a) i = if i = k then none else mm_R M (lc_el M a) i := fun i => by
      rw [mm_RR]
      by_cases e2 : i = k
      · rw [if_pos ⟨rfl, e2⟩, if_pos e2]
      · rw [if_neg (fun q => e2 q.2), if_neg e2]; rfl
    have eit : ∀ i, i < k → lc_it (mm_sR (mm_sI (mm_sI M a 0 (mm_I M a 0 + 1)) a 2 (nI k)) (lc_el M a) k none) a i = lc_it M a i := fun i hi => by
      show (mm_R (mm_sR (mm_sI (mm_sI M a 0 (mm_I M a 0 + 1)) a 2 (nI k)) (lc_el M a) k none) (lc_el (mm_sR (mm_sI (mm_sI M a 0 (mm_I M a 0 + 1)) a 2 (nI k)) (lc_el M a) k none) a) i).getD 0 = _
      rw [eel, rd, if_neg (by omega)]
      rfl
    have ck : f_J15_checkIndex_7cf53 M (nI k) (nI (k + 1)) = some (nI k) := bx (a := nI k) (iff_ (nI_pos (by omega)) (ift (nI_lt (by omega) (by omega)) rfl)) rfl
    refine ⟨_, bx (pfI ka hs) (bx ck (bx (pfR ka c4) (bx (paR c6 (show k < cap by omega) (by omega) (c7 k (by omega))) (bx (pe_rc ka) (bx (a := mm_sR (mm_sI (mm_sI M a 0 (mm_I M a 0 + 1)) a 2 (nI k)) (lc_el M a) k none) (bx (pe_fI 0 ka) (bx (pe_pI 0 _ ka) (bx (pfI (show mm_k (mm_sI M a 0 (mm_I M a 0 + 1)) a = some (0, 0) from ka) hs7) (ift (by rw [e1]; exact nI_le (Nat.le_refl _) (by omega)) (bx (a := mm_sI (mm_sI M a 0 (mm_I M a 0 + 1)) a 2 (nI k)) (by rw [e1]; exact pe_pI 2 _ (show mm_k (mm_sI M a 0 (mm_I M a 0 + 1)) a = some (0, 0) from ka)) (bx (a := mm_sR (mm_sI (mm_sI M a 0 (mm_I M a 0 + 1)) a 2 (nI k)) (lc_el M a) k none) (by rw [e1]; exact pe_tRn (show mm_k (mm_sI (mm_sI M a 0 (mm_I M a 0 + 1)) a 2 (nI k)) (lc_el M a) = some (17, cap) from c6) (by omega) (by omega)) rfl)))))) rfl))))), gw_R (gw_I (gw_I (gw_rf hf) (Or.inl (Or.inl rfl)) _ _) (Or.inl (Or.inl rfl)) _ _) (Or.inl (Or.inr ⟨rfl, hez⟩)) _ _, Or.inr ⟨cap, by omega, c2, c3, by rw [eel]; exact hR1, by rw [eel]; exact c5, by rw [eel]; exact c6, fun i hi => ?_, fun i hi hi2 => ?_⟩, by rw [mm_IR, mm_II, if_pos ⟨rfl, rfl⟩], eel, eit⟩
    · rw [eel, rd, if_neg (by omega), eit i hi]
      exact c7 i (by omega)
    · rw [eel, rd]
      by_cases e2 : i = k
      · rw [if_pos e2]
      · rw [if_neg e2]
        exact c8 i (by omega) hi2
end
