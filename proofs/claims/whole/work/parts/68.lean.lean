section
variable {n k : Nat} {σ τ υ : ls_S} {B M M1 : mm_M}
/-- the same in all that counts -/
def ls_e (σ τ : ls_S) : Prop := ∀ f, (f < 29 ∨ (34 < f ∧ f < 44)) → τ f = σ f
theorem ls_e_rf (σ : ls_S) : ls_e σ σ := fun _ _ => rfl
theorem ls_e_tr (h : ls_e σ τ) (h2 : ls_e τ υ) : ls_e σ υ := fun f hf => (h2 f hf).trans (h f hf)
theorem ls_e_u (h : ls_e σ τ) {f j v : Nat} (hf : ¬ (f < 29 ∨ (34 < f ∧ f < 44))) : ls_e σ (mm_u τ f j v) := fun g hg => by
  funext i
  rw [mm_u, if_neg (by omega), h g hg]
theorem ls_e_v (h : ls_v σ τ) : ls_e σ τ := fun f hf => h f (ls_nx_of (by omega) (by omega))
theorem lc_e0 (h : lc n σ B M) (e : ls_e σ τ) : lc n τ B M := by
  obtain ⟨hK, ⟨i1, i2, i3, i4, i5, i6, i7, i8, i9, ia, ib, ic⟩, hm⟩ := h
  refine ⟨lc_Kσ hK (by rw [e 3 (by omega)]) (e 0 (by omega)) (by rw [e 28 (by omega)]), ⟨?_, ?_, i3, lc_s4 i4 (by rw [e 3 (by omega)]) (by rw [e 28 (by omega)]), ?_, lc_s6 i6 (e 9 (by omega)) (e 10 (by omega)), lc_s7 i7 (by rw [e 3 (by omega)]) (e 0 (by omega)) (fun f a b => e f (by omega)), lc_s8 i8 (by rw [e 3 (by omega)]) (e 1 (by omega)) (e 2 (by omega)), lc_s9 i9 (by rw [e 28 (by omega)]) (fun f a b => e f (by omega)), ?_, ?_, ?_⟩, hm⟩
  · unfold lc_I1; rw [e 4 (by omega), e 6 (by omega), e 7 (by omega)]; exact i1
  · unfold lc_I2; rw [e 5 (by omega)]; exact i2
  · unfold lc_I5; rw [e 8 (by omega), e 10 (by omega)]; exact i5
  · unfold lc_Ia; rw [e 37 (by omega), e 36 (by omega), e 35 (by omega)]; exact ia
  · unfold lc_Ib; rw [e 39 (by omega), e 40 (by omega), e 41 (by omega), e 42 (by omega), e 43 (by omega)]; exact ib
  · unfold lc_Ic; rw [e 38 (by omega), e 39 (by omega)]; exact ic
theorem ls_e_at (e : ls_e σ τ) (q : Nat) : ls_at τ q = ls_at σ q := by
  unfold ls_at
  rw [e 13 (by omega), e 14 (by omega), e 15 (by omega), e 16 (by omega), e 17 (by omega)]
theorem ls_G_e (h : ls_G k σ) (e : ls_e σ τ) : ls_G k τ := by
  obtain ⟨h1, h2, h3, h4, h5, h6, h7, h8⟩ := h
  have ep : ∀ q, ls_pl τ q ↔ ls_pl σ q := fun q => by unfold ls_pl; rw [e 3 (by omega), e 0 (by omega)]
  refine ⟨?_, ?_, fun p hp q hq => ?_, fun p hp => ?_, ?_, ?_, ⟨fun q hq => ?_, fun q hq => ?_⟩, fun p hp q hq => ?_⟩
  · unfold ls_O1
    rw [e 0 (by omega), e 1 (by omega), e 2 (by omega), e 3 (by omega)]
    exact h1
  · unfold ls_O2
    rw [e 4 (by omega), e 5 (by omega), e 6 (by omega), e 7 (by omega), e 8 (by omega)]
    exact h2
  · rw [ls_e_at e, e 8 (by omega)]
    exact h3 p hp q hq
  · rw [e 10 (by omega), e 9 (by omega), e 3 (by omega)]
    exact ⟨(h4 p hp).1, fun i hi => (ep _).mpr ((h4 p hp).2.1 i hi), (h4 p hp).2.2⟩
  · have ew : ∀ i, ls_was τ i = ls_was σ i := fun i => by
      unfold ls_was
      rw [e 23 (by omega), e 24 (by omega), e 25 (by omega), e 26 (by omega), e 27 (by omega)]
    unfold ls_O5
    rw [e 28 (by omega), e 18 (by omega), e 19 (by omega), e 20 (by omega), e 21 (by omega), e 22 (by omega), e 8 (by omega)]
    refine ⟨h5.1, fun i hi => ?_⟩
    rw [ew i]
    have := h5.2 i hi
    exact ⟨this.1, (ep _).mpr this.2.1, this.2.2⟩
  · unfold ls_O6
    rw [e 38 (by omega), e 39 (by omega), e 40 (by omega), e 41 (by omega), e 42 (by omega), e 43 (by omega)]
    exact h6
  · rw [e 12 (by omega)]
    exact h7.1 q hq
  · rw [e 11 (by omega)]
    exact h7.2 q hq
  · rw [ls_e_at e, e 11 (by omega), e 12 (by omega)]
    exact ⟨(h8 p hp q hq).1, fun z => (h8 p hp q hq).2 (fun y => z ((ep q).mpr y))⟩
-- sums of zeros and ones
theorem ls_sm_le {f : Nat → Nat} : ∀ {N : Nat}, (∀ j, j < N → f j ≤ 1) → ls_sm f N ≤ N
  | 0, _ => Nat.le_refl _
  | N + 1, h => by
    have a := ls_sm_le (f := f) (N := N) (fun j hj => h j (by omega))
    have b := h N (by omega)
    show ls_sm f N + f N ≤ N + 1
    omega
theorem ls_sm_cg {f g : Nat → Nat} : ∀ {N : Nat}, (∀ j, j < N → f j = g j) → ls_sm f N = ls_sm g N
  | 0, _ => rfl
  | N + 1, h => by
    show ls_sm f N + f N = ls_sm g N + g N
    rw [ls_sm_cg (N := N) (fun j hj => h j (by omega)), h N (by omega)]
theorem ls_sm_up {f g : Nat → Nat} {t : Nat} : ∀ {N : Nat}, t < N → (∀ j, j ≠ t → g j = f j) → ls_sm g N + f t = ls_sm f N + g t
  | 0, h, _ => absurd h (Nat.not_lt_zero t)
  | N + 1, h, hg => by
    show ls_sm g N + g N + f t = ls_sm f N + f N + g t
    by_cases e : t = N
    · subst e
      rw [ls_sm_cg (f := g) (g := f) (N := t) (fun j hj => hg j (by omega))]
      omega
    · have := ls_sm_up (f := f) (g := g) (t := t) (N := N) (by omega) hg
      rw [hg N (by omega)]
      omega
theorem ls_sm_z (N : Nat) : ls_sm (fun _ => 0) N = 0 := by
  induction N with
  | zero => rfl
  | succ N ih => show ls_sm _ N + 0 = 0; rw [ih]
/-- from a one comes to b along the leanings -/
def ls_rch (σ : ls_S) (a b : Nat) : Prop := ∀ P : Nat → Prop, P a → (∀ c, c < σ 3 0 → P c → ∀ k, k < σ 2 c → P (σ 1 (4 * c + k))) → P b
theorem ls_rch_s {a c j : Nat} (h : ls_rch σ a c) (hc : c < σ 3 0) (hj : j < σ 2 c) : ls_rch σ a (σ 1 (4 * c + j)) := fun P h0 hs => hs c hc (h P h0 hs) j hj
-- the deck in the class
theorem lc_kdk (h : lc n σ B M) : mm_k M (n + 3) = some (3, 0) := lc_k h (3, 3, 0) (by decide)
theorem lc_rdk (h : lc n σ B M) (f o : Nat) (hf : (3, f, o) ∈ lc_rt) : mm_fR M (some (n + 3)) 3 f = some (some (n + o)) := pfR (lc_kdk h) (lc_r h _ hf)
theorem lc_kdl (h : lc n σ B M) : mm_k M (n + 4) = some (0, 0) := lc_k h (4, 0, 0) (by decide)
theorem lc_kre (h : lc n σ B M) : mm_k M (n + 5) = some (12, 120) := lc_k h (5, 12, 120) (by decide)
theorem lc_kir (h : lc n σ B M) : mm_k M (n + 6) = some (14, 120) := lc_k h (6, 14, 120) (by decide)
theorem lc_dsz (h : lc n σ B M) : f_Jx4a65c_size_8abf5 M (some (n + 4)) = some (nI (σ 3 0)) := by
  rw [lc_size (lc_kdl h), h.2.1.2.2.2.1.2.1]
theorem lc_cardAt (h : lc n σ B M) (h3 : σ 3 0 ≤ 120) {c : Nat} (hc : c < σ 3 0) : f_X2_cardAt M (some (n + 3)) (nI c) = some (some (lc_kd n M c)) :=
  iff_ (nI_pos (by omega)) (bx (lc_rdk h 0 4 (by decide)) (bx (pe_rc (lc_kdl h)) (bx (lc_dsz h) (ift (nI_lt hc (by omega)) (bx (lc_rdk h 0 4 (by decide)) (bx (pe_rc (lc_kdl h)) (bx (lc_get (lc_kdl h) h.1.2.2.1.2.1 h.2.1.2.2.2.1.2.1 (by omega) hc) (bx (pe_cc (h.1.2.2.2.2.2.1 c hc).1) rfl))))))))
theorem lc_cardOut (h : lc n σ B M) {x : Int32} (hx : ¬ (0 ≤ x ∧ x < nI (σ 3 0))) : f_X2_cardAt M (some (n + 3)) x = some none := by
  by_cases h0 : x < 0
  · exact ift h0 rfl
  · exact iff_ h0 (bx (lc_rdk h 0 4 (by decide)) (bx (pe_rc (lc_kdl h)) (bx (lc_dsz h) (iff_ (fun q => hx ⟨Int32.not_lt.mp h0, q⟩) rfl))))
theorem lc_scr (h : lc n σ B M) {a : Nat} (ha : a = n + 5 ∨ a = n + 6) (j : Nat) (v : Int32) : lc n σ B (mm_sI M a j v) := by
  obtain ⟨i1, i2, i3, i4, i5, i6, i7, i8, i9, ia, ib, ic⟩ := id h.2.1
  have hd : lc_di (fun b => b = a) M (mm_sI M a j v) := lc_di_I (P := fun b => b = a) (lc_di_rf _ M) rfl _ _
  exact lc_fr h hd (fun b hb => by omega) (ls_hp_rf σ) ⟨lc_t1 i1 hd (by omega), lc_t2 i2 hd (by omega), lc_t3 i3 hd (by omega) (by omega), lc_t4 i4 hd (fun p hp => by have := lc_lo29 hp; omega) (by omega) (by omega), lc_t5 i5 hd (fun p hp => by have := lc_lo29 (show p < 5 by omega); omega), lc_t6 i6 hd (fun p hp => by have := lc_lo29 (show p < 5 by omega); omega), lc_ta ia hd (by omega) (by omega) (by omega), lc_tb ib hd (by omega), lc_tc ic hd (by omega)⟩
/-- the ways gone: cnt cards reached, R; b marks them -/
def lc_bf2 (n : Nat) (σ : ls_S) (B M : mm_M) (a cnt : Nat) (R b : Nat → Nat) : Prop := lc n σ B M ∧ (∀ j, j < 120 → mm_I M (n + 6) j = nI (b j) ∧ b j ≤ 1) ∧ (∀ i, i < cnt → mm_I M (n + 5) i = nI (R i) ∧ R i < σ 3 0 ∧ b (R i) = 1) ∧ (∀ c, c < 120 → b c = 1 → (∃ i, i < cnt ∧ R i = c) ∧ ls_rch σ a c) ∧ cnt = ls_sm b 120
theorem cl_reach (h1 : ls_O1 σ) {a cnt : Nat} {R b : Nat → Nat} (h : lc_bf2 n σ B M a cnt R b) {c : Nat} (hc : c < σ 3 0) (hr : ls_rch σ a c) : ∃ M1 cnt1 R1 b1, f_X2_reach M (some (n + 3)) (nI c) (nI cnt) = some (nI cnt1, M1) ∧ lc_bf2 n σ B M1 a cnt1 R1 b1 ∧ cnt ≤ cnt1 ∧ (∀ i, i < cnt → R1 i = R i) ∧ b1 c = 1 ∧ (∀ j, b j = 1 → b1 j = 1) ∧ lc_sk M M1 := by
  have h120 := h1.1
  obtain ⟨hl, hb, hR, hm, hcnt⟩ := id h
  have hle := ls_sm_le (f := b) (N := 120) (fun j hj => (hb j hj).2)
  have X : ∀ {r}, (if nI (b c) = 0 then f_X2_reach_22 M (some (n + 3)) (nI c) (nI cnt) else f_X2_reach_31 M (nI cnt)) = r → f_X2_reach M (some (n + 3)) (nI c) (nI cnt) = r := fun q => iff_ (nI_pos (by omega)) (bx (lc_rdk hl 2 6 (by decide)) (bx (pe_ln (lc_kir hl) (by omega)) (iff_ (nI_ge (b := 120) (by omega) (by omega)) (bx (lc_rdk hl 2 6 (by decide)) (bx (paI (lc_kir hl) (by omega) (by omega) (hb c (by omega)).1) q)))))
  by_cases e : b c = 1
  · exact ⟨M, cnt, R, b, X (iff_ (nI_ne0 (by omega) (by omega)) rfl), h, Nat.le_refl _, fun _ _ => rfl, e, fun _ q => q, lc_sk_rf M⟩
  · have e0 : b c = 0 := by have := (hb c (by omega)).2; omega
    have hup := ls_sm_up (f := b) (g := fun j => if j = c then 1 else b j) (t := c) (N := 120) (by omega) (fun j hj => if_neg hj)
    have hle2 := ls_sm_le (f := fun j => if j = c then 1 else b j) (N := 120) (fun j hj => by
      show (if j = c then 1 else b j) ≤ 1
      split
      · omega
      · exact (hb j hj).2)
    rw [if_pos rfl] at hup
    have hl2 := lc_scr (lc_scr hl (Or.inr rfl) c 1) (Or.inl rfl) cnt (nI c)
    refine ⟨mm_sI (mm_sI M (n + 6) c 1) (n + 5) cnt (nI c), cnt + 1, fun i => if i = cnt then c else R i, fun j => if j = c then 1 else b j, X (ift (by rw [e0]; decide) (bx (lc_rdk hl 1 5 (by decide)) (bx (pe_ln (lc_kre hl) (by omega)) (ift (nI_lt (b := 120) (by omega) (by omega)) (bx (lc_rdk hl 2 6 (by decide)) (bx (pe_tZ (lc_kir hl) (show c < 120 by omega) (by omega) (Or.inr rfl)) (bx (lc_rdk (lc_scr hl (Or.inr rfl) c 1) 1 5 (by decide)) (bx (pe_tI _ (lc_kre (lc_scr hl (Or.inr rfl) c 1)) (show cnt < 120 by omega) (by omega)) ?_)))))))), ⟨hl2, fun j hj => ?_, fun i hi => ?_, fun d hd hbd => ?_, by omega⟩, by omega, fun i hi => if_neg (by omega), if_pos rfl, fun j hj => ?_, ⟨rfl, rfl, rfl⟩⟩
    · show some (nI cnt + 1, _) = _
      rw [nI_1]
    · rw [mm_II, if_neg (by omega), mm_II]
      show _ = nI (if j = c then 1 else b j) ∧ (if j = c then 1 else b j) ≤ 1
      by_cases q : j = c
      · rw [if_pos ⟨rfl, q⟩, if_pos q]
        exact ⟨rfl, Nat.le_refl _⟩
      · rw [if_neg (fun z => q z.2), if_neg q]
        exact hb j hj
    · show _ = nI (if i = cnt then c else R i) ∧ (if i = cnt then c else R i) < _ ∧ (if (if i = cnt then c else R i) = c then 1 else b (if i = cnt then c else R i)) = 1
      rw [mm_II]
      by_cases q : i = cnt
      · rw [if_pos ⟨rfl, q⟩, if_pos q, if_pos rfl]
        exact ⟨rfl, hc, rfl⟩
      · rw [if_neg (fun z => q z.2), if_neg q, mm_II, if_neg (by omega)]
        have := hR i (by omega)
        refine ⟨this.1, this.2.1, ?_⟩
        split
        · rfl
        · exact this.2.2
    · by_cases q : d = c
      · subst q
        exact ⟨⟨cnt, by omega, if_pos rfl⟩, hr⟩
      · have hbd2 : b d = 1 := (if_neg q).symm.trans hbd
        obtain ⟨⟨i, hi, hRi⟩, hr2⟩ := hm d hd hbd2
        exact ⟨⟨i, by omega, (if_neg (by omega)).trans hRi⟩, hr2⟩
    · show (if j = c then 1 else b j) = 1
      split
      · rfl
      · exact hj
theorem lc_sk_kd (h : lc_sk M M1) (c : Nat) : lc_kd n M1 c = lc_kd n M c := by
  have e : ∀ a k, mm_R M1 a k = mm_R M a k := fun a k => congrFun (congrFun h.2.1 a) k
  simp only [lc_kd, lc_it, lc_el, e]
theorem cl_leadsTo (h : lc n σ B M) (h1 : ls_O1 σ) {a t : Nat} (ha : a < σ 3 0) (ht : t < σ 3 0) : ∃ r M1, f_X2_leadsTo M (some (n + 3)) (nI a) (nI t) = some (r, M1) ∧ lc n σ B M1 ∧ lc_sk M M1 ∧ ((r = 1 ∧ ls_rch σ a t) ∨ (r = 0 ∧ ¬ ls_rch σ a t)) := by
  have h120 := h1.1
  obtain ⟨q, hq, r, M1, rfl, hl, hs, hr⟩ := pe_cnt (body := fun x : mm_M × Int32 => f_X2_leadsTo_2 x.1 (some (n + 3)) (nI a) (nI t) x.2) (x := (M, 0)) (fun i x => ∃ M1, x = (M1, nI i) ∧ lc n σ B M1 ∧ lc_sk M M1 ∧ ∀ j, j < i → mm_I M1 (n + 6) j = 0) (fun q => ∃ r M1, q = (r, M1) ∧ lc n σ B M1 ∧ lc_sk M M1 ∧ ((r = 1 ∧ ls_rch σ a t) ∨ (r = 0 ∧ ¬ ls_rch σ a t))) 120 ⟨M, rfl, h, lc_sk_rf M, fun j hj => absurd hj (Nat.not_lt_zero j)⟩ (by
      rintro i x hi ⟨M1, rfl, hl, hs, hz⟩
      refine ⟨(mm_sI M1 (n + 6) i 0, nI (i + 1)), bx (lc_rdk hl 2 6 (by decide)) (bx (pe_ln (lc_kir hl) (by omega)) (iff_ (nI_ge (b := 120) hi (by omega)) (bx (lc_rdk hl 2 6 (by decide)) (bx (pe_tZ (lc_kir hl) hi (by omega) (Or.inl rfl)) ?_)))), _, rfl, lc_scr hl (Or.inr rfl) i 0, ⟨hs.1, hs.2.1, hs.2.2⟩, fun j hj => ?_⟩
      · show some (Sum.inl (_, nI i + 1)) = _
        rw [nI_1]
      · rw [mm_II]
        by_cases e : j = i
        · rw [if_pos ⟨rfl, e⟩]
        · rw [if_neg (fun z => e z.2)]
          exact hz j (by omega)) (by
      rintro x ⟨M1, rfl, hl, hs, hz⟩
      have h0 : lc_bf2 n σ B M1 a 0 (fun _ => 0) (fun _ => 0) := ⟨hl, fun j hj => ⟨hz j hj, Nat.zero_le _⟩, fun i hi => absurd hi (Nat.not_lt_zero i), fun c hc q => absurd q (by show ¬ (0 = 1); omega), (ls_sm_z 120).symm⟩
      obtain ⟨M2, cnt2, R2, b2, f2, g2, -, -, ba2, -, s2⟩ := cl_reach h1 h0 ha (fun P p _ => p)
      obtain ⟨q, hq, r, M3, rfl, hl3, hs3, hr3⟩ := pe_loop (body := fun x : mm_M × Int32 × Int32 => f_X2_leadsTo_34 x.1 (some (n + 3)) (nI t) x.2.1 x.2.2) (x := (M2, nI cnt2, 0)) (fun i x => ∃ M1 cnt R b, x = (M1, nI cnt, nI i) ∧ lc_bf2 n σ B M1 a cnt R b ∧ lc_sk M M1 ∧ b a = 1 ∧ i ≤ cnt ∧ ∀ j, j < i → ∀ k, k < σ 2 (R j) → b (σ 1 (4 * R j + k)) = 1) (fun q => ∃ r M1, q = (r, M1) ∧ lc n σ B M1 ∧ lc_sk M M1 ∧ ((r = 1 ∧ ls_rch σ a t) ∨ (r = 0 ∧ ¬ ls_rch σ a t))) 120 ⟨M2, cnt2, R2, b2, rfl, g2, lc_sk_tr hs s2, ba2, Nat.zero_le _, fun j hj => absurd hj (Nat.not_lt_zero j)⟩ (by
          rintro i x hi ⟨M1, cnt, R, b, rfl, g, hs, hba, hic, hcl⟩
          obtain ⟨hl, hb, hR, hm, hcnt⟩ := id g
          have hle := ls_sm_le (f := b) (N := 120) (fun j hj => (hb j hj).2)
          by_cases e : i = cnt
          · subst e
            right
            have X : ∀ {r}, (if nI (b t) = 0 then f_X2_leadsTo_144 M1 else f_X2_leadsTo_140 M1) = r → f_X2_leadsTo_118 M1 (some (n + 3)) (nI t) = r := fun q => iff_ (nI_pos (by omega)) (bx (lc_rdk hl 2 6 (by decide)) (bx (pe_ln (lc_kir hl) (by omega)) (iff_ (nI_ge (b := 120) (by omega) (by omega)) (bx (lc_rdk hl 2 6 (by decide)) (bx (paI (lc_kir hl) (show t < 120 by omega) (by omega) (hb t (by omega)).1) q)))))
            by_cases ebt : b t = 1
            · exact ⟨_, ift (nI_le (Nat.le_refl _) (by omega)) (mpx (X (iff_ (by rw [ebt]; decide) (gz (s := 1) (Or.inr rfl) rfl)))), 1, M1, rfl, hl, hs, Or.inl ⟨rfl, (hm t (by omega) ebt).2⟩⟩
            · have e0 : b t = 0 := by have := (hb t (by omega)).2; omega
              refine ⟨_, ift (nI_le (Nat.le_refl _) (by omega)) (mpx (X (ift (by rw [e0]; decide) (gz (s := 0) (Or.inl rfl) rfl)))), 0, M1, rfl, hl, hs, Or.inr ⟨rfl, fun q => ebt (q (fun c => b c = 1) hba (fun c hc hbc j hj => ?_))⟩⟩
              obtain ⟨⟨l, hl1, hl2⟩, -⟩ := hm c (by omega) hbc
              subst hl2
              exact hcl l hl1 j hj
          · left
            have hi2 : i < cnt := by omega
            obtain ⟨r1, r2, r3⟩ := hR i hi2
            have hl4 := (h1.2.2 (R i) r2).1
            have kk := hl.1.2.2.2.2.2.1 (R i) r2
            have i8 := hl.2.1.2.2.2.2.2.2.2.1 (R i) r2
            obtain ⟨y, hy, M2, cnt2, R2, b2, rfl, g2, s2, hc2, hR2, hb2, ht2⟩ := pe_cnt (body := fun x : mm_M × Int32 × Int32 => f_X2_leadsTo_66 x.1 (some (n + 3)) (nI t) x.2.1 (nI i) (some (lc_kd n M1 (R i))) x.2.2) (x := (M1, nI cnt, 0)) (fun j x => ∃ M2 cnt2 R2 b2, x = (M2, nI cnt2, nI j) ∧ lc_bf2 n σ B M2 a cnt2 R2 b2 ∧ lc_sk M1 M2 ∧ cnt ≤ cnt2 ∧ (∀ l, l < cnt → R2 l = R l) ∧ (∀ l, b l = 1 → b2 l = 1) ∧ ∀ l, l < j → b2 (σ 1 (4 * R i + l)) = 1) (fun q => ∃ M2 cnt2 R2 b2, q = .inl (M2, nI cnt2, nI (i + 1)) ∧ lc_bf2 n σ B M2 a cnt2 R2 b2 ∧ lc_sk M1 M2 ∧ cnt ≤ cnt2 ∧ (∀ l, l < cnt → R2 l = R l) ∧ (∀ l, b l = 1 → b2 l = 1) ∧ ∀ l, l < σ 2 (R i) → b2 (σ 1 (4 * R i + l)) = 1) (σ 2 (R i)) ⟨M1, cnt, R, b, rfl, g, lc_sk_rf M1, Nat.le_refl _, fun _ _ => rfl, fun _ q => q, fun l hl => absurd hl (Nat.not_lt_zero l)⟩ (by
                rintro j x hj ⟨M2, cnt2, R2, b2, rfl, g2, s2, hc2, hR2, hb2, ht2⟩
                have hl2 := g2.1
                rw [← lc_sk_kd s2]
                have kk := hl2.1.2.2.2.2.2.1 (R i) r2
                have i8 := hl2.2.1.2.2.2.2.2.2.2.1 (R i) r2
                obtain ⟨M3, cnt3, R3, b3, f3, g3, hc3, hR3, hb3, hbb3, s3⟩ := cl_reach h1 g2 ((h1.2.2 (R i) r2).2 j hj) (ls_rch_s (hm (R i) (by omega) r3).2 r2 hj)
                refine ⟨(M3, nI cnt3, nI (j + 1)), iff_ (fun q => nomatch q) (bx (pfI kk.1 i8.1) (iff_ (nI_ge hj (by omega)) (bx (pfR kk.1 kk.2.2.1) (bx (pe_ln kk.2.2.2.1 (by omega)) (iff_ (nI_ge (b := 4) (by omega) (by omega)) (bx (pfR kk.1 kk.2.2.1) (bx (paI kk.2.2.2.1 (show j < 4 by omega) (by omega) (i8.2 j hj)) (bx (pe_rc (lc_kdk hl2)) (b2x f3 ?_))))))))), M3, cnt3, R3, b3, rfl, g3, lc_sk_tr s2 s3, by omega, fun l hl => (hR3 l (by omega)).trans (hR2 l hl), fun l hl => hbb3 l (hb2 l hl), fun l hl => ?_⟩
                · show some (Sum.inl (M3, nI cnt3, nI j + 1)) = _
                  rw [nI_1]
                · by_cases e : l = j
                  · rw [e]; exact hb3
                  · exact hbb3 _ (ht2 l (by omega))) (by
                rintro x ⟨M2, cnt2, R2, b2, rfl, g2, s2, hc2, hR2, hb2, ht2⟩
                have hl2 := g2.1
                rw [← lc_sk_kd s2]
                have kk := hl2.1.2.2.2.2.2.1 (R i) r2
                have i8 := hl2.2.1.2.2.2.2.2.2.2.1 (R i) r2
                refine ⟨_, iff_ (fun q => nomatch q) (bx (pfI kk.1 i8.1) (ift (nI_le (Nat.le_refl _) (by omega)) (mpx rfl))), M2, cnt2, R2, b2, ?_, g2, s2, hc2, hR2, hb2, ht2⟩
                show (Sum.inl (M2, nI cnt2, nI i + 1) : (mm_M × Int32 × Int32) ⊕ (Int32 × mm_M)) = _
                rw [nI_1])
            refine ⟨_, iff_ (nI_ge hi2 (by omega)) (bx (lc_rdk hl 1 5 (by decide)) (bx (pe_ln (lc_kre hl) (by omega)) (iff_ (nI_ge (b := 120) (by omega) (by omega)) (bx (lc_rdk hl 1 5 (by decide)) (bx (paI (lc_kre hl) (show i < 120 by omega) (by omega) r1) (bx (pe_rc (lc_kdk hl)) (bx (lc_cardAt hl h120 r2) hy))))))), ⟨M2, cnt2, R2, b2, rfl, g2, lc_sk_tr hs s2, hb2 a hba, by omega, fun j hj l hlj => ?_⟩, by omega⟩
            rw [hR2 j (by omega)] at hlj ⊢
            by_cases e2 : j = i
            · subst e2
              exact ht2 l hlj
            · exact hb2 _ (hcl j (by omega) l hlj))
      exact ⟨_, bx (lc_rdk hl 2 6 (by decide)) (bx (pe_ln (lc_kir hl) (by omega)) (ift (nI_le (a := 120) (b := 120) (Nat.le_refl _) (by omega)) (mpx (bx (pe_rc (lc_kdk hl)) (b2x f2 hq))))), r, M3, rfl, hl3, hs3, hr3⟩)
  exact ⟨r, M1, hq, hl, hs, hr⟩
theorem cl_leansOn (h : lc n σ B M) (h1 : ls_O1 σ) {a b : Nat} (ha : a < σ 3 0) (hb : b < σ 3 0) : f_X0_leansOn M (some (lc_kd n M a)) (nI b) = some (if ∃ j, j < σ 2 a ∧ σ 1 (4 * a + j) = b then 1 else 0) := by
  have h120 := h1.1
  have hl4 := (h1.2.2 a ha).1
  have kk := h.1.2.2.2.2.2.1 a ha
  have i8 := h.2.1.2.2.2.2.2.2.2.1 a ha
  obtain ⟨r, hr, rfl⟩ := pe_loop (body := fun x : Int32 => f_X0_leansOn_2 M (some (lc_kd n M a)) (nI b) x) (x := 0) (fun i x => x = nI i ∧ ∀ j, j < i → σ 1 (4 * a + j) ≠ b) (fun r => r = (if ∃ j, j < σ 2 a ∧ σ 1 (4 * a + j) = b then (1 : Int32) else 0)) (σ 2 a) ⟨rfl, fun j hj => absurd hj (Nat.not_lt_zero j)⟩ (by
      rintro i x hi ⟨rfl, hn⟩
      by_cases e : i = σ 2 a
      · subst e
        exact Or.inr ⟨0, bx (pfI kk.1 i8.1) (ift (nI_le (Nat.le_refl _) (by omega)) (mpx rfl)), (if_neg (fun ⟨j, hj, q⟩ => hn j hj q)).symm⟩
      · have hi2 : i < σ 2 a := by omega
        have hx := (h1.2.2 a ha).2 i hi2
        have X : ∀ {r}, (if nI (σ 1 (4 * a + i)) = nI b then mm_mp (f_X0_leansOn_29 M) else f_X0_leansOn_31 M (some (lc_kd n M a)) (nI b) (nI i)) = r → f_X0_leansOn_2 M (some (lc_kd n M a)) (nI b) (nI i) = r := fun q => bx (pfI kk.1 i8.1) (iff_ (nI_ge hi2 (by omega)) (bx (pfR kk.1 kk.2.2.1) (bx (pe_ln kk.2.2.2.1 (by omega)) (iff_ (nI_ge (b := 4) (by omega) (by omega)) (bx (pfR kk.1 kk.2.2.1) (bx (paI kk.2.2.2.1 (show i < 4 by omega) (by omega) (i8.2 i hi2)) q))))))
        by_cases eb : σ 1 (4 * a + i) = b
        · exact Or.inr ⟨1, X (ift (by rw [eb]) (mpx rfl)), (if_pos ⟨i, hi2, eb⟩).symm⟩
        · refine Or.inl ⟨nI (i + 1), X (iff_ (fun q => eb ((nI_eq (by omega) (by omega)).mp q)) ?_), ⟨rfl, fun j hj => ?_⟩, hi2⟩
          · show some (Sum.inl (nI i + 1)) = _
            rw [nI_1]
          · by_cases e2 : j = i
            · rw [e2]; exact eb
            · exact hn j (by omega))
  exact hr
end
