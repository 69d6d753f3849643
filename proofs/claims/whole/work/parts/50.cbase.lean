-- the class's cells: what they are (offset, kind) and how they hang together (offset, field, offset)
def lc_kt : List (Nat × Nat × Nat) := [(0, 10, 0), (1, 2, 0), (2, 12, 400), (3, 3, 0), (4, 0, 0), (5, 12, 120), (6, 14, 120), (7, 15, 4), (8, 7, 0), (9, 0, 0), (10, 12, 120), (11, 0, 0), (12, 5, 0), (13, 12, 480), (14, 12, 480), (15, 12, 81), (16, 8, 0), (17, 13, 8), (18, 12, 4), (19, 7, 0), (20, 0, 0), (21, 12, 120), (22, 7, 0), (23, 0, 0), (24, 12, 120), (25, 7, 0), (26, 0, 0), (27, 12, 120), (28, 7, 0), (29, 0, 0), (30, 12, 120)]
def lc_rt : List (Nat × Nat × Nat) := [(0, 0, 1), (0, 1, 3), (0, 2, 7), (0, 3, 8), (0, 4, 11), (0, 5, 12), (0, 6, 16), (0, 7, 18), (1, 0, 2), (3, 0, 4), (3, 1, 5), (3, 2, 6), (7, 0, 19), (7, 1, 22), (7, 2, 25), (7, 3, 28), (8, 0, 9), (8, 1, 10), (12, 0, 13), (12, 2, 14), (12, 3, 15), (16, 0, 17), (19, 0, 20), (19, 1, 21), (22, 0, 23), (22, 1, 24), (25, 0, 26), (25, 1, 27), (28, 0, 29), (28, 1, 30)]
def lc_K0 (n : Nat) (M : mm_M) : Prop := (∀ t, t ∈ lc_kt → mm_k M (n + t.1) = some t.2) ∧ ∀ t, t ∈ lc_rt → mm_R M (n + t.1) t.2.1 = some (n + t.2.2)
/-- where a learner's offset is; 4 is the shadow -/
def lc_lo (p : Nat) : Nat := if p = 4 then 8 else 19 + 3 * p
-- pointers followed
def lc_el (M : mm_M) (a : Nat) : Nat := (mm_R M a 1).getD 0
def lc_it (M : mm_M) (a i : Nat) : Nat := (mm_R M (lc_el M a) i).getD 0
def lc_hd (n : Nat) (M : mm_M) (p c : Nat) : Nat := lc_it M (n + (lc_lo p + 1)) c
def lc_ma (n : Nat) (M : mm_M) (p c : Nat) : Nat := (mm_R M (lc_hd n M p c) 0).getD 0
def lc_mu (n : Nat) (M : mm_M) (p c s : Nat) : Nat := (mm_R M (lc_ma n M p c) s).getD 0
def lc_kd (n : Nat) (M : mm_M) (c : Nat) : Nat := lc_it M (n + 4) c
def lc_kl (n : Nat) (M : mm_M) (c : Nat) : Nat := (mm_R M (lc_kd n M c) 0).getD 0
def lc_en (n : Nat) (M : mm_M) (i : Nat) : Nat := lc_it M (n + 11) i
def lc_bf (n : Nat) (M : mm_M) (i : Nat) : Nat := (mm_R M (lc_en n M i) 6).getD 0
/-- a list's cells, k things in it -/
def lc_L (n : Nat) (M : mm_M) (a k : Nat) : Prop := (k = 0 ∧ mm_R M a 1 = some (mm_z M)) ∨ ∃ cap, k ≤ cap ∧ 10 ≤ cap ∧ cap ≤ 1000 ∧ mm_R M a 1 = some (lc_el M a) ∧ n + 63 ≤ lc_el M a ∧ mm_k M (lc_el M a) = some (17, cap) ∧ (∀ i, i < k → mm_R M (lc_el M a) i = some (lc_it M a i)) ∧ ∀ i, k ≤ i → i < cap → mm_R M (lc_el M a) i = none
/-- the lists -/
def lc_ls : List Nat := [4, 9, 11, 20, 23, 26, 29]
def lc_K (n : Nat) (σ : ls_S) (M : mm_M) : Prop := lc_K0 n M
  ∧ (mm_z M < n ∧ mm_k M (mm_z M) = some (18, 0) ∧ n + 63 ≤ mm_n M ∧ ∀ a, mm_n M ≤ a → mm_k M a = none)
  ∧ ((∀ p, p < 5 → lc_L n M (n + (lc_lo p + 1)) (σ 3 0)) ∧ lc_L n M (n + 4) (σ 3 0) ∧ lc_L n M (n + 11) (σ 28 0) ∧ ∀ a, a ∈ lc_ls → ∀ b, b ∈ lc_ls → lc_el M (n + a) = lc_el M (n + b) → a = b ∨ lc_el M (n + a) = mm_z M)
  ∧ (∀ p, p < 5 → ∀ c, c < σ 3 0 → mm_k M (lc_hd n M p c) = some (6, 0) ∧ n + 63 ≤ lc_hd n M p c ∧ mm_R M (lc_hd n M p c) 0 = some (lc_ma n M p c) ∧ mm_k M (lc_ma n M p c) = some (16, σ 0 c) ∧ n + 63 ≤ lc_ma n M p c ∧ ∀ s, s < σ 0 c → mm_R M (lc_ma n M p c) s = some (lc_mu n M p c s) ∧ mm_k M (lc_mu n M p c s) = some (9, 0) ∧ n + 63 ≤ lc_mu n M p c s)
  ∧ (∀ p, p < 5 → ∀ c, c < σ 3 0 → ∀ s, s < σ 0 c → ∀ p2, p2 < 5 → ∀ c2, c2 < σ 3 0 → ∀ s2, s2 < σ 0 c2 → lc_mu n M p c s = lc_mu n M p2 c2 s2 → p = p2 ∧ c = c2 ∧ s = s2)
  ∧ (∀ c, c < σ 3 0 → mm_k M (lc_kd n M c) = some (1, 0) ∧ n + 63 ≤ lc_kd n M c ∧ mm_R M (lc_kd n M c) 0 = some (lc_kl n M c) ∧ mm_k M (lc_kl n M c) = some (12, 4) ∧ n + 63 ≤ lc_kl n M c)
  ∧ (∀ c, c < σ 3 0 → ∀ c2, c2 < σ 3 0 → (lc_kd n M c = lc_kd n M c2 → c = c2) ∧ (lc_kl n M c = lc_kl n M c2 → c = c2))
  ∧ ∀ i, i < σ 28 0 → mm_k M (lc_en n M i) = some (4, 0) ∧ n + 63 ≤ lc_en n M i ∧ mm_R M (lc_en n M i) 6 = some (lc_bf n M i) ∧ mm_k M (lc_bf n M i) = some (9, 0) ∧ n + 63 ≤ lc_bf n M i ∧ ∀ p, p < 5 → ∀ c, c < σ 3 0 → ∀ s, s < σ 0 c → lc_bf n M i ≠ lc_mu n M p c s
-- the numbers
def lc_fl : Nat → Nat
  | 0 => 13
  | 1 => 14
  | 2 => 15
  | 3 => 16
  | 4 => 17
  | 5 => 12
  | _ => 11
/-- scalars, numbers, curve, lists' sizes -/
def lc_I1 (n : Nat) (σ : ls_S) (M : mm_M) : Prop := mm_I M n 8 = nI (σ 4 0) ∧ mm_I M n 9 = nI (σ 6 0) ∧ mm_I M n 10 = nI (σ 7 0)
def lc_I2 (n : Nat) (σ : ls_S) (M : mm_M) : Prop := ∀ a, a < 4 → mm_I M (n + 18) a = nI (σ 5 a)
def lc_I3 (n : Nat) (M : mm_M) : Prop := mm_I M (n + 1) 1 = nI 15 ∧ ∀ i, i < 400 → mm_I M (n + 2) i = nI (ls_F i)
def lc_I4 (n : Nat) (σ : ls_S) (M : mm_M) : Prop := (∀ p, p < 5 → mm_I M (n + (lc_lo p + 1)) 2 = nI (σ 3 0)) ∧ mm_I M (n + 4) 2 = nI (σ 3 0) ∧ mm_I M (n + 11) 2 = nI (σ 28 0)
/-- learners, rows -/
def lc_I5 (n : Nat) (σ : ls_S) (M : mm_M) : Prop := ∀ p, p < 4 → mm_I M (n + lc_lo p) 3 = nI (σ 8 p) ∧ mm_I M (n + lc_lo p) 2 = nI (σ 10 p)
def lc_I6 (n : Nat) (σ : ls_S) (M : mm_M) : Prop := ∀ p, p < 4 → ∀ i, i < σ 10 p → mm_I M (n + (lc_lo p + 2)) i = nI (σ 9 (480 * p + i))
/-- memories; the shadow's are the fifth pupil's -/
def lc_I7 (n : Nat) (σ : ls_S) (M : mm_M) : Prop := ∀ p, p < 5 → ∀ c, c < σ 3 0 → ∀ s, s < σ 0 c → ∀ k, k < 7 → mm_I M (lc_mu n M p c s) k = ls_en (lc_fl k) (σ (lc_fl k) (480 * p + 4 * c + s))
/-- the deck -/
def lc_I8 (n : Nat) (σ : ls_S) (M : mm_M) : Prop := ∀ c, c < σ 3 0 → mm_I M (lc_kd n M c) 1 = nI (σ 2 c) ∧ ∀ k, k < σ 2 c → mm_I M (lc_kl n M c) k = nI (σ 1 (4 * c + k))
/-- the log -/
def lc_I9 (n : Nat) (σ : ls_S) (M : mm_M) : Prop := ∀ i, i < σ 28 0 → (mm_I M (lc_en n M i) 0 = nI (σ 18 i / 480) ∧ mm_I M (lc_en n M i) 1 = nI (σ 18 i % 480) ∧ mm_I M (lc_en n M i) 2 = nI (σ 19 i) ∧ mm_I M (lc_en n M i) 3 = nI (σ 20 i) ∧ mm_I M (lc_en n M i) 4 = nI (σ 21 i) ∧ mm_I M (lc_en n M i) 5 = nI (σ 22 i)) ∧ ∀ k, k < 5 → mm_I M (lc_bf n M i) k = ls_en (23 + k) (σ (23 + k) i)
/-- the evening -/
def lc_Ia (n : Nat) (σ : ls_S) (M : mm_M) : Prop := (σ 37 0 = 0 ∨ σ 37 0 = 1) ∧ mm_I M (n + 12) 4 = nI (σ 37 0) ∧ (σ 37 0 = 1 → (∀ d, d < 81 → mm_I M (n + 15) d = nI (σ 36 d)) ∧ ∀ q, q < 480 → mm_I M (n + 14) q = ls_en 35 (σ 35 q))
/-- the test -/
def lc_Ib (n : Nat) (σ : ls_S) (M : mm_M) : Prop := mm_I M (n + 16) 1 = nI (σ 39 0) ∧ mm_I M (n + 16) 2 = nI (σ 40 0) ∧ mm_I M (n + 16) 3 = nI (σ 41 0) ∧ mm_I M (n + 16) 4 = nI (σ 42 0) ∧ mm_I M (n + 16) 5 = nI (σ 43 0)
def lc_Ic (n : Nat) (σ : ls_S) (M : mm_M) : Prop := ∀ l, l < σ 39 0 → mm_L M (n + 17) l = lN (σ 38 l)
/-- B's model is M's -/
def lc_mf (n : Nat) (B M : mm_M) : Prop := ∀ a, n + 31 ≤ a → a < n + 63 → mm_k M a = mm_k B a ∧ (∀ k, mm_I M a k = mm_I B a k) ∧ (∀ k, mm_R M a k = mm_R B a k) ∧ ∀ k, mm_L M a k = mm_L B a k
def lc_I (n : Nat) (σ : ls_S) (M : mm_M) : Prop := lc_I1 n σ M ∧ lc_I2 n σ M ∧ lc_I3 n M ∧ lc_I4 n σ M ∧ lc_I5 n σ M ∧ lc_I6 n σ M ∧ lc_I7 n σ M ∧ lc_I8 n σ M ∧ lc_I9 n σ M ∧ lc_Ia n σ M ∧ lc_Ib n σ M ∧ lc_Ic n σ M
def lc (n : Nat) (σ : ls_S) (B M : mm_M) : Prop := lc_K n σ M ∧ lc_I n σ M ∧ lc_mf n B M
-- kinds
theorem lc_lo_in {p : Nat} (hp : p < 5) : lc_lo p ∈ [8, 19, 22, 25, 28] := by
  have h : ∀ p, p < 5 → lc_lo p ∈ [8, 19, 22, 25, 28] := by decide
  exact h p hp
section
variable {n : Nat} {σ : ls_S} {B M : mm_M}
theorem lc_k (h : lc n σ B M) (t : Nat × Nat × Nat) (ht : t ∈ lc_kt) : mm_k M (n + t.1) = some t.2 := h.1.1.1 t ht
theorem lc_r (h : lc n σ B M) (t : Nat × Nat × Nat) (ht : t ∈ lc_rt) : mm_R M (n + t.1) t.2.1 = some (n + t.2.2) := h.1.1.2 t ht
theorem lc_kla (h : lc n σ B M) {p : Nat} (hp : p < 5) : mm_k M (n + lc_lo p) = some (7, 0) := by
  have q : ∀ p, p < 5 → (lc_lo p, 7, 0) ∈ lc_kt := by decide
  exact lc_k h _ (q p hp)
theorem lc_klh (h : lc n σ B M) {p : Nat} (hp : p < 5) : mm_k M (n + (lc_lo p + 1)) = some (0, 0) := by
  have q : ∀ p, p < 5 → (lc_lo p + 1, 0, 0) ∈ lc_kt := by decide
  exact lc_k h _ (q p hp)
theorem lc_klr (h : lc n σ B M) {p : Nat} (hp : p < 5) : mm_k M (n + (lc_lo p + 2)) = some (12, 120) := by
  have q : ∀ p, p < 5 → (lc_lo p + 2, 12, 120) ∈ lc_kt := by decide
  exact lc_k h _ (q p hp)
theorem lc_rlh (h : lc n σ B M) {p : Nat} (hp : p < 5) : mm_R M (n + lc_lo p) 0 = some (n + (lc_lo p + 1)) := by
  have q : ∀ p, p < 5 → (lc_lo p, 0, lc_lo p + 1) ∈ lc_rt := by decide
  exact lc_r h _ (q p hp)
theorem lc_rlr (h : lc n σ B M) {p : Nat} (hp : p < 5) : mm_R M (n + lc_lo p) 1 = some (n + (lc_lo p + 2)) := by
  have q : ∀ p, p < 5 → (lc_lo p, 1, lc_lo p + 2) ∈ lc_rt := by decide
  exact lc_r h _ (q p hp)
end
