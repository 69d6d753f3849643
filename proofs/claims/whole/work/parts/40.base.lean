-- what the primitives answer, where they may
theorem pe_fI {M : mm_M} {a ci : Nat} (k : Nat) (h : mm_k M a = some (ci, 0)) : mm_fI M (some a) ci k = some (mm_I M a k) := by simp only [mm_fI, h, if_true]
theorem pe_fR {M : mm_M} {a ci : Nat} (k : Nat) (h : mm_k M a = some (ci, 0)) : mm_fR M (some a) ci k = some (mm_R M a k) := by simp only [mm_fR, h, if_true]
theorem pe_pI {M : mm_M} {a ci : Nat} (k : Nat) (v : Int32) (h : mm_k M a = some (ci, 0)) : mm_pI M (some a) ci k v = some (mm_sI M a k v) := by simp only [mm_pI, h, if_true]
theorem pe_pZ {M : mm_M} {a ci : Nat} (k : Nat) {v : Int32} (h : mm_k M a = some (ci, 0)) (hv : v = 0 ∨ v = 1) : mm_pZ M (some a) ci k v = some (mm_sI M a k v) := by simp only [mm_pZ, h]; exact if_pos ⟨trivial, hv⟩
theorem pe_pR {M : mm_M} {a ci : Nat} (k : Nat) (v : Option Nat) (h : mm_k M a = some (ci, 0)) : mm_pR M (some a) ci k v = some (mm_sR M a k v) := by simp only [mm_pR, h, if_true]
theorem pe_rc {M : mm_M} {a ci : Nat} (h : mm_k M a = some (ci, 0)) : mm_rc M (some a) ci = some () := by simp only [mm_rc, h, if_true]
theorem pe_cc {M : mm_M} {a ci : Nat} (h : mm_k M a = some (ci, 0)) : mm_cc M (some a) ci = some () := by simp only [mm_cc, h, if_true]
theorem pe_ln {M : mm_M} {a k n : Nat} (h : mm_k M a = some (k, n)) (h1 : 12 ≤ k ∧ k ≤ 18) : mm_ln M (some a) = some (nI n) := by simp only [mm_ln, h]; exact if_pos h1
theorem pe_al {M : mm_M} {a k n : Nat} (h : mm_k M a = some (k, n)) : mm_al M (some a) k = some n := by simp only [mm_al, h, if_true]
theorem pe_in {i n : Nat} (h : i < n) (hn : n < 2 ^ 31) : ¬ (nI i < 0 ∨ n ≤ (nI i).toNatClampNeg) := nI_in h hn
theorem pe_aI {M : mm_M} {a k n i : Nat} (h : mm_k M a = some (k, n)) (hi : i < n) (hn : n < 2 ^ 31) : mm_aI M (some a) k (nI i) = some (mm_I M a i) := by
  simp only [mm_aI, h]
  rw [if_pos ⟨trivial, pe_in hi hn⟩, nI_clamp (by omega)]
theorem pe_aL {M : mm_M} {a n i : Nat} (h : mm_k M a = some (13, n)) (hi : i < n) (hn : n < 2 ^ 31) : mm_aL M (some a) (nI i) = some (mm_L M a i) := by
  simp only [mm_aL, h]
  rw [if_pos ⟨trivial, pe_in hi hn⟩, nI_clamp (by omega)]
theorem pe_aR {M : mm_M} {a k n i : Nat} (h : mm_k M a = some (k, n)) (hi : i < n) (hn : n < 2 ^ 31) : mm_aR M (some a) k (nI i) = some (mm_R M a i) := by
  simp only [mm_aR, h]
  rw [if_pos ⟨trivial, pe_in hi hn⟩, nI_clamp (by omega)]
theorem pe_tI {M : mm_M} {a n i : Nat} (v : Int32) (h : mm_k M a = some (12, n)) (hi : i < n) (hn : n < 2 ^ 31) : mm_tI M (some a) (nI i) v = some (mm_sI M a i v) := by
  simp only [mm_tI, h]
  rw [if_pos ⟨trivial, pe_in hi hn⟩, nI_clamp (by omega)]
theorem pe_tZ {M : mm_M} {a n i : Nat} {v : Int32} (h : mm_k M a = some (14, n)) (hi : i < n) (hn : n < 2 ^ 31) (hv : v = 0 ∨ v = 1) : mm_tZ M (some a) (nI i) v = some (mm_sI M a i v) := by
  simp only [mm_tZ, h]
  rw [if_pos ⟨trivial, pe_in hi hn, hv⟩, nI_clamp (by omega)]
theorem pe_tL {M : mm_M} {a n i : Nat} (v : Int64) (h : mm_k M a = some (13, n)) (hi : i < n) (hn : n < 2 ^ 31) : mm_tL M (some a) (nI i) v = some (mm_sL M a i v) := by
  simp only [mm_tL, h]
  rw [if_pos ⟨trivial, pe_in hi hn⟩, nI_clamp (by omega)]
theorem pe_tR {M : mm_M} {a b k n i w : Nat} (h : mm_k M a = some (k, n)) (hb : mm_k M b = some (w, 0)) (hw : w < 12 ∧ ((k = 15 ∧ w = 7) ∨ (k = 16 ∧ w = 9) ∨ k = 17)) (hi : i < n) (hn : n < 2 ^ 31) : mm_tR M (some a) k (nI i) (some b) = some (mm_sR M a i (some b)) := by
  simp only [mm_tR, h, hb]
  rw [if_pos ⟨⟨trivial, pe_in hi hn⟩, hw⟩, nI_clamp (by omega)]
theorem pe_tRn {M : mm_M} {a k n i : Nat} (h : mm_k M a = some (k, n)) (hi : i < n) (hn : n < 2 ^ 31) : mm_tR M (some a) k (nI i) none = some (mm_sR M a i none) := by
  simp only [mm_tR, h]
  rw [if_pos ⟨trivial, pe_in hi hn⟩, nI_clamp (by omega)]
theorem pe_na {M : mm_M} {k i lim : Nat} (h : i ≤ lim) (hl : lim < 2 ^ 31) : mm_na M k (nI i) lim = some (mm_nw M (k, i)) := by
  have e : (nI i).toNatClampNeg = i := nI_clamp (by omega)
  unfold mm_na
  rw [if_pos ⟨nI_pos (by omega), by rw [e]; exact h⟩, e]
theorem pe_gd {α : Type} {c : Prop} [Decidable c] {x : Option α} (h : c) : mm_gd c x = x := if_pos h
theorem pe_b2 {α β γ : Type} {a : α} {b : β} {F : α → β → Option γ} : mm_b2 (some (a, b)) F = F a b := rfl
theorem pe_le {α β : Type} {a : α} {F : α → Option β} : mm_le a F = F a := rfl
theorem pe_mp {α β : Type} {a : α} : mm_mp (β := β) (some a) = some (.inr a) := rfl
theorem pe_bd {α β : Type} {a : α} {F : α → Option β} : (some a).bind F = F a := rfl
theorem pe_01 (c : Prop) [Decidable c] : (if c then (1 : Int32) else 0) = 0 ∨ (if c then (1 : Int32) else 0) = 1 := by
  by_cases h : c
  · exact Or.inr (if_pos h)
  · exact Or.inl (if_neg h)
-- loops
/-- a loop with an invariant: at most n rounds -/
theorem pe_while {σ ρ : Type} {body : σ → Option (σ ⊕ ρ)} (I : Nat → σ → Prop) (Q : ρ → Prop) (n : Nat) (hs : ∀ i x, i ≤ n → I i x → (∃ y, body x = some (.inl y) ∧ I (i + 1) y ∧ i < n) ∨ ∃ r, body x = some (.inr r) ∧ Q r) : ∀ (k i : Nat) (x : σ), n ≤ i + k → i ≤ n → I i x → ∃ r, mm_w body x = some r ∧ Q r
  | 0, i, x, hk, hi, h => by
    rcases hs i x hi h with ⟨y, -, -, h2⟩ | ⟨r, h1, h2⟩
    · omega
    · exact ⟨r, mm_w_r h1, h2⟩
  | k + 1, i, x, hk, hi, h => by
    rcases hs i x hi h with ⟨y, h1, h2, h3⟩ | ⟨r, h1, h2⟩
    · obtain ⟨r, h4, h5⟩ := pe_while I Q n hs k (i + 1) y (by omega) (by omega) h2
      exact ⟨r, (mm_w_l h1).trans h4, h5⟩
    · exact ⟨r, mm_w_r h1, h2⟩
theorem pe_loop {σ ρ : Type} {body : σ → Option (σ ⊕ ρ)} (I : Nat → σ → Prop) (Q : ρ → Prop) (n : Nat) {x : σ} (h0 : I 0 x) (hs : ∀ i x, i ≤ n → I i x → (∃ y, body x = some (.inl y) ∧ I (i + 1) y ∧ i < n) ∨ ∃ r, body x = some (.inr r) ∧ Q r) : ∃ r, mm_w body x = some r ∧ Q r := pe_while I Q n hs n 0 x (by omega) (Nat.zero_le _) h0
/-- a counting loop whose states are known -/
theorem pe_for {σ ρ : Type} {body : σ → Option (σ ⊕ ρ)} (P : Nat → σ) {r : ρ} (n : Nat) (hs : ∀ i, i < n → body (P i) = some (.inl (P (i + 1)))) (he : body (P n) = some (.inr r)) : mm_w body (P 0) = some r := by
  have h : ∀ k i, i + k = n → mm_w body (P i) = some r := by
    intro k
    induction k with
    | zero => intro i hi; rw [show i = n by omega]; exact mm_w_r he
    | succ k ih => intro i hi; rw [mm_w_l (hs i (by omega))]; exact ih (i + 1) (by omega)
  exact h n 0 (by omega)
theorem pe_for2 {σ ρ : Type} {body : σ → Option (σ ⊕ ρ)} (P : Nat → σ) {r : ρ} (m n : Nat) (hmn : m ≤ n) (hs : ∀ i, m ≤ i → i < n → body (P i) = some (.inl (P (i + 1)))) (he : body (P n) = some (.inr r)) : mm_w body (P m) = some r := by
  have h : ∀ k i, m ≤ i → i + k = n → mm_w body (P i) = some r := by
    intro k
    induction k with
    | zero => intro i h0 hi; rw [show i = n by omega]; exact mm_w_r he
    | succ k ih => intro i h0 hi; rw [mm_w_l (hs i h0 (by omega))]; exact ih (i + 1) (by omega) (by omega)
  exact h (n - m) m (Nat.le_refl _) (by omega)
-- numbers
theorem pe_ie {P : Prop} [Decidable P] {α : Type} {a b : α} (h : P) : (if P then a else b) = a := if_pos h
theorem pe_nI (n : Nat) : (OfNat.ofNat n : Int32) = nI n := rfl
theorem pe_inj {a b : Nat} (ha : a < 2 ^ 31) (hb : b < 2 ^ 31) : nI a = nI b ↔ a = b := nI_eq ha hb
theorem pe_lt0 {n : Nat} (h : n < 2 ^ 31) : ¬ nI n < 0 := nI_pos h
theorem pe_m1 {n : Nat} (h : n < 2 ^ 31) : nI n ≠ -1 := fun e => by
  have h2 := congrArg Int32.toInt e
  rw [nI_toInt h, show ((-1 : Int32)).toInt = -1 by decide] at h2
  omega
/-- an argument that a test lets through -/
theorem pe_arg {x : Int32} {n : Nat} (hn : n < 2 ^ 31) (h0 : 0 ≤ x) (h1 : x < nI n) : ∃ j, j < n ∧ x = nI j := by
  obtain ⟨j, hj, rfl⟩ := nI_of (Int32.not_lt.mpr h0)
  exact ⟨j, (nI_ltI hj hn).mp h1, rfl⟩
theorem lg_ge (x y : Int64) : (0 ≤ lg_cmp x y) ↔ y ≤ x := by
  unfold lg_cmp
  by_cases h : x > y
  · rw [if_pos h]; exact ⟨fun _ => Int64.le_of_lt h, fun _ => by decide⟩
  · rw [if_neg h]
    by_cases e : x = y
    · rw [if_pos e, e]; exact ⟨fun _ => Int64.le_refl _, fun _ => by decide⟩
    · rw [if_neg e]
      refine ⟨fun z => absurd z (by decide), fun z => absurd (Int64.le_antisymm (Int64.not_lt.mp h) z) e⟩
theorem lg_le (x y : Int64) : (lg_cmp x y ≤ 0) ↔ x ≤ y := by
  unfold lg_cmp
  by_cases h : x > y
  · rw [if_pos h]; exact ⟨fun z => absurd z (by decide), fun z => absurd h (Int64.not_lt.mpr z)⟩
  · rw [if_neg h]
    by_cases e : x = y
    · rw [if_pos e, e]; exact ⟨fun _ => Int64.le_refl _, fun _ => by decide⟩
    · rw [if_neg e]
      exact ⟨fun _ => Int64.not_lt.mp h, fun _ => by decide⟩
theorem lg_lt (x y : Int64) : (lg_cmp x y < 0) ↔ x < y := by
  rw [← Int32.not_le, lg_ge, Int64.not_le]
theorem lg_gt (x y : Int64) : (0 < lg_cmp x y) ↔ y < x := by
  rw [← Int32.not_le, lg_le, Int64.not_le]
theorem lg_eq (x y : Int64) : (lg_cmp x y = 0) ↔ x = y := by
  unfold lg_cmp
  by_cases h : x > y
  · rw [if_pos h]; exact ⟨fun z => absurd z (by decide), fun z => absurd h (by rw [z]; exact fun q => absurd q Int64.lt_irrefl)⟩
  · rw [if_neg h]
    by_cases e : x = y
    · rw [if_pos e]; exact ⟨fun _ => e, fun _ => rfl⟩
    · rw [if_neg e]; exact ⟨fun z => absurd z (by decide), fun z => absurd z e⟩
