-- readers with their values
theorem pfI {M : mm_M} {a ci k : Nat} {v : Int32} (hk : mm_k M a = some (ci, 0)) (e : mm_I M a k = v) : mm_fI M (some a) ci k = some v := (pe_fI k hk).trans (congrArg some e)
theorem pfR {M : mm_M} {a ci k : Nat} {v : Option Nat} (hk : mm_k M a = some (ci, 0)) (e : mm_R M a k = v) : mm_fR M (some a) ci k = some v := (pe_fR k hk).trans (congrArg some e)
theorem paI {M : mm_M} {a k n i : Nat} {v : Int32} (h : mm_k M a = some (k, n)) (hi : i < n) (hn : n < 2 ^ 31) (e : mm_I M a i = v) : mm_aI M (some a) k (nI i) = some v := (pe_aI h hi hn).trans (congrArg some e)
theorem paR {M : mm_M} {a k n i : Nat} {v : Option Nat} (h : mm_k M a = some (k, n)) (hi : i < n) (hn : n < 2 ^ 31) (e : mm_R M a i = v) : mm_aR M (some a) k (nI i) = some v := (pe_aR h hi hn).trans (congrArg some e)
theorem paL {M : mm_M} {a n i : Nat} {v : Int64} (h : mm_k M a = some (13, n)) (hi : i < n) (hn : n < 2 ^ 31) (e : mm_L M a i = v) : mm_aL M (some a) (nI i) = some v := (pe_aL h hi hn).trans (congrArg some e)
theorem pe_argle {x : Int32} {n : Nat} (hn : n < 2 ^ 30) (h0 : 0 ≤ x) (h1 : x ≤ nI n) : ∃ j, j ≤ n ∧ x = nI j := by
  obtain ⟨j, hj, rfl⟩ := nI_of (Int32.not_lt.mpr h0)
  exact ⟨j, (nI_leI hj (by omega)).mp h1, rfl⟩
theorem pe_arg1 {x : Int32} {n : Nat} (hn : n < 2 ^ 30) (h0 : 1 ≤ x) (h1 : x ≤ nI n) : ∃ j, 1 ≤ j ∧ j ≤ n ∧ x = nI j := by
  obtain ⟨j, hj, rfl⟩ := pe_argle hn (Int32.le_trans (by decide) h0) h1
  exact ⟨j, (nI_leI (a := 1) (by omega) (by omega)).mp h0, hj, rfl⟩
theorem ls_within_in (M : mm_M) {x a b : Int32} (h : a ≤ x ∧ x ≤ b) : f_X10_within M x a b = some 1 := (ls_within M x a b).trans (by rw [if_pos h])
theorem ls_within_out (M : mm_M) {x a b : Int32} (h : ¬ (a ≤ x ∧ x ≤ b)) : f_X10_within M x a b = some 0 := (ls_within M x a b).trans (by rw [if_neg h])
theorem ls_isPupil_in (M : mm_M) {p : Nat} (h : p < 4) : f_X10_isPupil M (nI p) = some 1 := (ls_isPupil M (nI p)).trans (by rw [if_pos ⟨nI_pos' (by omega), nI_lt (b := 4) h (by omega)⟩])
theorem ls_isPupil_out (M : mm_M) {x : Int32} (h : ¬ (0 ≤ x ∧ x < 4)) : f_X10_isPupil M x = some 0 := (ls_isPupil M x).trans (by rw [if_neg h])
theorem pe_pupil (x : Int32) : (∃ p, p < 4 ∧ x = nI p) ∨ ¬ (0 ≤ x ∧ x < 4) := by
  by_cases h : 0 ≤ x ∧ x < 4
  · exact Or.inl (pe_arg (n := 4) (by omega) h.1 h.2)
  · exact Or.inr h
theorem cl_isRule_in (M : mm_M) {x : Int32} (h : 0 ≤ x ∧ x ≤ 2) : f_X9_isRule M x = some 1 := iff_ (Int32.not_lt.mpr h.1) (iff_ (Int32.not_lt.mpr h.2) (gz (s := 1) (Or.inr rfl) rfl))
theorem cl_isRule_out (M : mm_M) {x : Int32} (h : ¬ (0 ≤ x ∧ x ≤ 2)) : f_X9_isRule M x = some 0 := by
  by_cases h0 : x < 0
  · exact ift h0 (gz (s := 0) (Or.inl rfl) rfl)
  · exact iff_ h0 (ift (Int32.not_le.mp (fun q => h ⟨Int32.not_lt.mp h0, q⟩)) (gz (s := 0) (Or.inl rfl) rfl))
theorem cl_isAnswer_in (M : mm_M) {x : Int32} (h : 0 ≤ x ∧ x ≤ 3) : f_X9_isAnswer M x = some 1 := iff_ (Int32.not_lt.mpr h.1) (iff_ (Int32.not_lt.mpr h.2) (gz (s := 1) (Or.inr rfl) rfl))
theorem cl_isAnswer_out (M : mm_M) {x : Int32} (h : ¬ (0 ≤ x ∧ x ≤ 3)) : f_X9_isAnswer M x = some 0 := by
  by_cases h0 : x < 0
  · exact ift h0 (gz (s := 0) (Or.inl rfl) rfl)
  · exact iff_ h0 (ift (Int32.not_le.mp (fun q => h ⟨Int32.not_lt.mp h0, q⟩)) (gz (s := 0) (Or.inl rfl) rfl))
-- numbers changed in some cells alone
def lc_di (P : Nat → Prop) (M M1 : mm_M) : Prop := M1.1 = M.1 ∧ M1.2.2.1 = M.2.2.1 ∧ M1.2.2.2.2 = M.2.2.2.2 ∧ ∀ a, ¬ P a → (∀ k, mm_I M1 a k = mm_I M a k) ∧ ∀ k, mm_L M1 a k = mm_L M a k
theorem lc_di_rf (P : Nat → Prop) (M : mm_M) : lc_di P M M := ⟨rfl, rfl, rfl, fun _ _ => ⟨fun _ => rfl, fun _ => rfl⟩⟩
theorem lc_di_tr {P : Nat → Prop} {M M1 M2 : mm_M} (h : lc_di P M M1) (h2 : lc_di P M1 M2) : lc_di P M M2 := ⟨h2.1.trans h.1, h2.2.1.trans h.2.1, h2.2.2.1.trans h.2.2.1, fun a ha => ⟨fun k => ((h2.2.2.2 a ha).1 k).trans ((h.2.2.2 a ha).1 k), fun k => ((h2.2.2.2 a ha).2 k).trans ((h.2.2.2 a ha).2 k)⟩⟩
theorem lc_di_I {P : Nat → Prop} {M M1 : mm_M} (h : lc_di P M M1) {a : Nat} (ha : P a) (k : Nat) (v : Int32) : lc_di P M (mm_sI M1 a k v) := by
  refine ⟨h.1, h.2.1, h.2.2.1, fun b hb => ⟨fun j => ?_, (h.2.2.2 b hb).2⟩⟩
  rw [mm_II, if_neg (fun (e : b = a ∧ j = k) => hb (e.1 ▸ ha))]
  exact (h.2.2.2 b hb).1 j
theorem lc_di_L {P : Nat → Prop} {M M1 : mm_M} (h : lc_di P M M1) {a : Nat} (ha : P a) (k : Nat) (v : Int64) : lc_di P M (mm_sL M1 a k v) := by
  refine ⟨h.1, h.2.1, h.2.2.1, fun b hb => ⟨(h.2.2.2 b hb).1, fun j => ?_⟩⟩
  rw [mm_LL, if_neg (fun (e : b = a ∧ j = k) => hb (e.1 ▸ ha))]
  exact (h.2.2.2 b hb).2 j
theorem lc_di_w {P Q : Nat → Prop} {M M1 : mm_M} (h : lc_di P M M1) (hq : ∀ a, P a → Q a) : lc_di Q M M1 := ⟨h.1, h.2.1, h.2.2.1, fun a ha => h.2.2.2 a (fun z => ha (hq a z))⟩
theorem lc_di_k {P : Nat → Prop} {M M1 : mm_M} (h : lc_di P M M1) (a : Nat) : mm_k M1 a = mm_k M a := congrFun h.1 a
theorem lc_di_R {P : Nat → Prop} {M M1 : mm_M} (h : lc_di P M M1) (a k : Nat) : mm_R M1 a k = mm_R M a k := congrFun (congrFun h.2.1 a) k
theorem lc_di_sk {P : Nat → Prop} {M M1 : mm_M} (h : lc_di P M M1) : lc_sk M M1 := ⟨h.1, h.2.1, h.2.2.1⟩
/-- the fixed part of the relation -/
def lc_X (n : Nat) (σ : ls_S) (M : mm_M) : Prop := lc_I1 n σ M ∧ lc_I2 n σ M ∧ lc_I3 n M ∧ lc_I4 n σ M ∧ lc_I5 n σ M ∧ lc_I6 n σ M ∧ lc_Ia n σ M ∧ lc_Ib n σ M ∧ lc_Ic n σ M
/-- the states agree in what lies behind the fixed cells -/
def ls_hp (σ τ : ls_S) : Prop := τ 3 0 = σ 3 0 ∧ τ 0 = σ 0 ∧ τ 28 0 = σ 28 0 ∧ τ 1 = σ 1 ∧ τ 2 = σ 2 ∧ ∀ f, 11 ≤ f → f ≤ 27 → τ f = σ f
theorem ls_hp_rf (σ : ls_S) : ls_hp σ σ := ⟨rfl, rfl, rfl, rfl, rfl, fun _ _ _ => rfl⟩
theorem ls_hp_u {σ τ : ls_S} (h : ls_hp σ τ) {f j v : Nat} (hf : f ≠ 3 ∧ f ≠ 0 ∧ f ≠ 28 ∧ f ≠ 1 ∧ f ≠ 2 ∧ (f < 11 ∨ 27 < f)) : ls_hp σ (mm_u τ f j v) := by
  have e : ∀ g, g ≠ f → mm_u τ f j v g = τ g := fun g hg => funext fun i => by rw [mm_u, if_neg (fun q => hg q.1)]
  obtain ⟨h3, h0, h28, h1, h2, hr⟩ := h
  refine ⟨?_, ?_, ?_, ?_, ?_, fun g a b => ?_⟩
  · rw [e 3 (by omega), h3]
  · rw [e 0 (by omega), h0]
  · rw [e 28 (by omega), h28]
  · rw [e 1 (by omega), h1]
  · rw [e 2 (by omega), h2]
  · rw [e g (by omega), hr g a b]
section
variable {n : Nat} {σ τ : ls_S} {B M M1 : mm_M} {P : Nat → Prop}
theorem lc_fr (h : lc n σ B M) (hd : lc_di P M M1) (hP : ∀ a, P a → n ≤ a ∧ a < n + 31) (hs : ls_hp σ τ) (hX : lc_X n τ M1) : lc n τ B M1 := by
  obtain ⟨K1, I1, R1, L1, z1⟩ := M1
  obtain ⟨K, I, R, L, z⟩ := M
  obtain ⟨rfl, rfl, rfl, hf⟩ := hd
  have hI : ∀ a, (a < n ∨ n + 31 ≤ a) → ∀ k, mm_I (K1, I1, R1, L1, z1) a k = mm_I (K1, I, R1, L, z1) a k := fun a ha => (hf a (fun q => by have := hP a q; omega)).1
  have hL : ∀ a, (a < n ∨ n + 31 ≤ a) → ∀ k, mm_L (K1, I1, R1, L1, z1) a k = mm_L (K1, I, R1, L, z1) a k := fun a ha => (hf a (fun q => by have := hP a q; omega)).2
  obtain ⟨hK, ⟨i1, i2, i3, i4, i5, i6, i7, i8, i9, ia, ib, ic⟩, hm⟩ := h
  obtain ⟨x1, x2, x3, x4, x5, x6, xa, xb, xc⟩ := hX
  obtain ⟨s3, s0, s28, s1, s2, sr⟩ := hs
  have hK1 : lc_K n σ (K1, I1, R1, L1, z1) := hK
  refine ⟨lc_Kσ hK1 s3 s0 s28, ⟨x1, x2, x3, x4, x5, x6, lc_s7 (σ := σ) (fun p hp c hc s hs k hk => ?_) s3 s0 (fun f a b => sr f a (by omega)), lc_s8 (σ := σ) (fun c hc => ?_) s3 s1 s2, lc_s9 (σ := σ) (fun i hi => ?_) s28 (fun f a b => sr f (by omega) b), xa, xb, xc⟩, fun a a1 a2 => ?_⟩
  · have := ((hK.2.2.2.1 p hp c hc).2.2.2.2.2 s hs).2.2
    exact (hI _ (Or.inr (Nat.le_trans (by omega) this)) _).trans (i7 p hp c hc s hs k hk)
  · have h1 := (hK.2.2.2.2.2.1 c hc).2.1
    have h2 := (hK.2.2.2.2.2.1 c hc).2.2.2.2
    exact ⟨(hI _ (Or.inr (Nat.le_trans (by omega) h1)) _).trans (i8 c hc).1, fun k hk => (hI _ (Or.inr (Nat.le_trans (by omega) h2)) _).trans ((i8 c hc).2 k hk)⟩
  · have h1 := (hK.2.2.2.2.2.2.2 i hi).2.1
    have h2 := (hK.2.2.2.2.2.2.2 i hi).2.2.2.2.1
    have q1 := hI _ (Or.inr (Nat.le_trans (by omega) h1))
    have q2 := hI _ (Or.inr (Nat.le_trans (by omega) h2))
    obtain ⟨⟨a0, a1, a2, a3, a4, a5⟩, b⟩ := i9 i hi
    exact ⟨⟨(q1 _).trans a0, (q1 _).trans a1, (q1 _).trans a2, (q1 _).trans a3, (q1 _).trans a4, (q1 _).trans a5⟩, fun k hk => (q2 _).trans (b k hk)⟩
  · have hm1 := hm a a1 a2
    exact ⟨hm1.1, fun k => (hI a (Or.inr a1) k).trans (hm1.2.1 k), hm1.2.2.1, fun k => (hL a (Or.inr a1) k).trans (hm1.2.2.2 k)⟩
-- the parts carried over
theorem lc_t1 (h : lc_I1 n σ M) (hd : lc_di P M M1) (hn : ¬ P n) : lc_I1 n σ M1 := ⟨((hd.2.2.2 n hn).1 _).trans h.1, ((hd.2.2.2 n hn).1 _).trans h.2.1, ((hd.2.2.2 n hn).1 _).trans h.2.2⟩
theorem lc_t2 (h : lc_I2 n σ M) (hd : lc_di P M M1) (hn : ¬ P (n + 18)) : lc_I2 n σ M1 := fun a ha => ((hd.2.2.2 _ hn).1 _).trans (h a ha)
theorem lc_t3 (h : lc_I3 n M) (hd : lc_di P M M1) (hn : ¬ P (n + 1)) (hn2 : ¬ P (n + 2)) : lc_I3 n M1 := ⟨((hd.2.2.2 _ hn).1 _).trans h.1, fun i hi => ((hd.2.2.2 _ hn2).1 _).trans (h.2 i hi)⟩
theorem lc_t4 (h : lc_I4 n σ M) (hd : lc_di P M M1) (hn : ∀ p, p < 5 → ¬ P (n + (lc_lo p + 1))) (hn2 : ¬ P (n + 4)) (hn3 : ¬ P (n + 11)) : lc_I4 n σ M1 := ⟨fun p hp => ((hd.2.2.2 _ (hn p hp)).1 _).trans (h.1 p hp), ((hd.2.2.2 _ hn2).1 _).trans h.2.1, ((hd.2.2.2 _ hn3).1 _).trans h.2.2⟩
theorem lc_t5 (h : lc_I5 n σ M) (hd : lc_di P M M1) (hn : ∀ p, p < 4 → ¬ P (n + lc_lo p)) : lc_I5 n σ M1 := fun p hp => ⟨((hd.2.2.2 _ (hn p hp)).1 _).trans (h p hp).1, ((hd.2.2.2 _ (hn p hp)).1 _).trans (h p hp).2⟩
theorem lc_t6 (h : lc_I6 n σ M) (hd : lc_di P M M1) (hn : ∀ p, p < 4 → ¬ P (n + (lc_lo p + 2))) : lc_I6 n σ M1 := fun p hp i hi => ((hd.2.2.2 _ (hn p hp)).1 _).trans (h p hp i hi)
theorem lc_ta (h : lc_Ia n σ M) (hd : lc_di P M M1) (hn : ¬ P (n + 12)) (hn2 : ¬ P (n + 14)) (hn3 : ¬ P (n + 15)) : lc_Ia n σ M1 := ⟨h.1, ((hd.2.2.2 _ hn).1 _).trans h.2.1, fun q => ⟨fun d hd2 => ((hd.2.2.2 _ hn3).1 _).trans ((h.2.2 q).1 d hd2), fun d hd2 => ((hd.2.2.2 _ hn2).1 _).trans ((h.2.2 q).2 d hd2)⟩⟩
theorem lc_tb (h : lc_Ib n σ M) (hd : lc_di P M M1) (hn : ¬ P (n + 16)) : lc_Ib n σ M1 := ⟨((hd.2.2.2 _ hn).1 _).trans h.1, ((hd.2.2.2 _ hn).1 _).trans h.2.1, ((hd.2.2.2 _ hn).1 _).trans h.2.2.1, ((hd.2.2.2 _ hn).1 _).trans h.2.2.2.1, ((hd.2.2.2 _ hn).1 _).trans h.2.2.2.2⟩
theorem lc_tc (h : lc_Ic n σ M) (hd : lc_di P M M1) (hn : ¬ P (n + 17)) : lc_Ic n σ M1 := fun l hl => ((hd.2.2.2 _ hn).2 _).trans (h l hl)
theorem lc_lo29 {p : Nat} (hp : p < 5) : 8 ≤ lc_lo p ∧ lc_lo p ≤ 28 ∧ ∀ q, q < 5 → lc_lo p = lc_lo q → p = q := by
  have := lc_lov hp
  refine ⟨by omega, by omega, fun q hq e => ?_⟩
  have := lc_lov hq
  omega
theorem lc_lo_ne {p q : Nat} (hp : p < 5) (hq : q < 5) : lc_lo p ≠ lc_lo q + 1 ∧ lc_lo p ≠ lc_lo q + 2 ∧ lc_lo p + 1 ≠ lc_lo q + 2 ∧ lc_lo p ≠ 11 ∧ lc_lo p ≠ 12 ∧ lc_lo p ≠ 14 ∧ lc_lo p ≠ 15 ∧ lc_lo p ≠ 16 ∧ lc_lo p ≠ 17 ∧ lc_lo p ≠ 18 ∧ lc_lo p + 1 ≠ 11 ∧ lc_lo p + 1 ≠ 12 ∧ lc_lo p + 1 ≠ 14 ∧ lc_lo p + 1 ≠ 15 ∧ lc_lo p + 1 ≠ 16 ∧ lc_lo p + 1 ≠ 17 ∧ lc_lo p + 1 ≠ 18 ∧ lc_lo p + 2 ≠ 11 ∧ lc_lo p + 2 ≠ 12 ∧ lc_lo p + 2 ≠ 14 ∧ lc_lo p + 2 ≠ 15 ∧ lc_lo p + 2 ≠ 16 ∧ lc_lo p + 2 ≠ 17 ∧ lc_lo p + 2 ≠ 18 := by
  have := lc_lov hp
  have := lc_lov hq
  omega
-- what a call makes of the two worlds
theorem ls_kb {B M : mm_M} (h : ls_mf n B M) (a : Nat) : mm_k B a = mm_k M a := by
  obtain ⟨K1, I1, R1, L1, z1⟩ := M
  obtain ⟨K, I, R, L, z⟩ := B
  obtain ⟨rfl, rfl, rfl, -⟩ := h
  rfl
def ls_Q (n k : Nat) (M1 M2 : mm_M) : Prop := ls_R n k M2 ∧ mm_k M1 (n + 31) = some (11, 0)
theorem ls_fin {k : Nat} {M2 : mm_M} (hM : ls_M n τ M1 M2) (hc : lc n τ M M1) (hG : ls_G k τ) : ls_Q n (k + 1) M1 M2 := ⟨ls_call hM hc (ls_G_up hG), (ls_kb hM.2.2.2.2 (n + 31)).trans hM.1.1⟩
theorem ls_callQ {k : Nat} {M2 : mm_M} (hM : ls_M n τ M1 M2) (hc : lc n τ M M1) (hG : ls_G k τ) : ls_Q n k M1 M2 := ⟨ls_call hM hc hG, (ls_kb hM.2.2.2.2 (n + 31)).trans hM.1.1⟩
theorem ls_no {k : Nat} (hM : ls_M n σ M M) (hc : lc n σ M M) (hG : ls_G k σ) : ls_Q n (k + 1) M M := ⟨⟨σ, hM, hc, ls_G_up hG⟩, hM.1.1⟩
end
/-- one call, of the class and of the model: like answers, and the worlds side by side behind it -/
def ls_cc {α : Type} (n k : Nat) (M : mm_M) (F G : mm_M → Option (α × mm_M)) : Prop := ∃ r M1 M2, F M = some (r, M1) ∧ G M1 = some (r, M2) ∧ ls_Q n (k + 1) M1 M2
/-- one that changes nothing in either -/
def ls_c0 {α : Type} (M : mm_M) (F G : mm_M → Option α) : Prop := ∃ r, F M = some r ∧ G M = some r
/-- one that changes the model alone -/
def ls_c1 {α : Type} (n k : Nat) (M : mm_M) (F : mm_M → Option α) (G : mm_M → Option (α × mm_M)) : Prop := ∃ r M2, F M = some r ∧ G M = some (r, M2) ∧ ls_Q n (k + 1) M M2
