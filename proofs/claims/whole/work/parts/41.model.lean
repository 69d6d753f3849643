-- the abstract state: what the model's fields hold, by field and place; some fields one more than they are, as they may be -1
abbrev ls_S : Type := Nat → Nat → Nat
def ls_en (f v : Nat) : Int32 := if f = 16 ∨ f = 26 ∨ f = 32 ∨ f = 34 ∨ f = 35 ∨ f = 47 then nI v - 1 else nI v
def ls_ao : Nat → Nat
  | 0 => 1
  | 1 => 2
  | 2 => 3
  | 5 => 4
  | 34 => 25
  | 35 => 26
  | 36 => 27
  | 38 => 28
  | 44 => 29
  | 46 => 30
  | 47 => 31
  | f => f - 3
def ls_al : Nat → Nat
  | 0 => 120
  | 1 => 480
  | 2 => 120
  | 5 => 4
  | 8 => 4
  | 9 => 1920
  | 10 => 4
  | 11 => 1920
  | 12 => 1920
  | 13 => 1920
  | 14 => 1920
  | 15 => 1920
  | 16 => 1920
  | 17 => 1920
  | 34 => 480
  | 35 => 480
  | 36 => 81
  | 38 => 8
  | 44 => 120
  | 46 => 120
  | 47 => 2400
  | _ => 3000
def ls_ak : Nat → Nat
  | 12 => 14
  | 44 => 14
  | 38 => 13
  | _ => 12
def ls_ad (n f : Nat) : Nat := n + 31 + ls_ao f
def ls_aF : List Nat := [0, 1, 2, 5, 8, 9, 10, 11, 12, 13, 14, 15, 16, 17, 18, 19, 20, 21, 22, 23, 24, 25, 26, 27, 34, 35, 36, 44, 46, 47]
def ls_sF : List Nat := [3, 4, 6, 7, 28, 29, 30, 31, 32, 33, 37, 39, 40, 41, 42, 43, 45]
/-- the model's cells: what they are and how they hang together -/
def ls_mk (n : Nat) (M : mm_M) : Prop := mm_k M (n + 31) = some (11, 0) ∧ (∀ f, f ∈ ls_aF → mm_R M (n + 31) f = some (ls_ad n f) ∧ mm_k M (ls_ad n f) = some (ls_ak f, ls_al f)) ∧ mm_R M (n + 31) 38 = some (ls_ad n 38) ∧ mm_k M (ls_ad n 38) = some (13, 8)
/-- M is B but for numbers in the model's cells -/
def ls_mf (n : Nat) (B M : mm_M) : Prop := M.1 = B.1 ∧ M.2.2.1 = B.2.2.1 ∧ M.2.2.2.2 = B.2.2.2.2 ∧ ∀ a, (a < n + 31 ∨ n + 63 ≤ a) → (∀ k, mm_I M a k = mm_I B a k) ∧ ∀ k, mm_L M a k = mm_L B a k
def ls_M (n : Nat) (σ : ls_S) (B M : mm_M) : Prop := ls_mk n M ∧ (∀ f, f ∈ ls_aF → ∀ j, j < ls_al f → mm_I M (ls_ad n f) j = ls_en f (σ f j)) ∧ (∀ f, f ∈ ls_sF → mm_I M (n + 31) f = ls_en f (σ f 0)) ∧ (∀ j, j < 8 → mm_L M (ls_ad n 38) j = lN (σ 38 j)) ∧ ls_mf n B M
theorem ls_mf_rf (n : Nat) (M : mm_M) : ls_mf n M M := ⟨rfl, rfl, rfl, fun _ _ => ⟨fun _ => rfl, fun _ => rfl⟩⟩
theorem bx {α β : Type} {x : Option α} {F : α → Option β} {a : α} {r : Option β} (e : x = some a) (h : F a = r) : x.bind F = r := by rw [e]; exact h
theorem b2x {α β γ : Type} {x : Option (α × β)} {F : α → β → Option γ} {a : α} {b : β} {r : Option γ} (e : x = some (a, b)) (h : F a b = r) : mm_b2 x F = r := by rw [e]; exact h
theorem ift {α : Type} {c : Prop} [Decidable c] {x y r : α} (hc : c) (h : x = r) : (if c then x else y) = r := (if_pos hc).trans h
theorem iff_ {α : Type} {c : Prop} [Decidable c] {x y r : α} (hc : ¬ c) (h : y = r) : (if c then x else y) = r := (if_neg hc).trans h
theorem gdx {α : Type} {c : Prop} [Decidable c] {x r : Option α} (hc : c) (h : x = r) : mm_gd c x = r := (if_pos hc).trans h
theorem ne10 : ¬ (1 : Int32) = 0 := by decide
theorem gz {α : Type} {s : Int32} {x r : Option α} (hc : s = 0 ∨ s = 1) (h : x = r) : mm_gd (s = 0 ∨ s = 1) x = r := (if_pos hc).trans h
theorem mpx {α β : Type} {x : Option α} {a : α} (e : x = some a) : mm_mp (β := β) x = some (.inr a) := by rw [e]; rfl
theorem ls_rc {n : Nat} {σ : ls_S} {B M : mm_M} (h : ls_M n σ B M) : mm_rc M (some (n + 31)) 11 = some () := pe_rc h.1.1
theorem ls_fR {n : Nat} {σ : ls_S} {B M : mm_M} (h : ls_M n σ B M) (f : Nat) (hf : f ∈ ls_aF) : mm_fR M (some (n + 31)) 11 f = some (some (ls_ad n f)) := (pe_fR f h.1.1).trans (congrArg some (h.1.2.1 f hf).1)
theorem ls_fI {n : Nat} {σ : ls_S} {B M : mm_M} (h : ls_M n σ B M) (f : Nat) (hf : f ∈ ls_sF) : mm_fI M (some (n + 31)) 11 f = some (ls_en f (σ f 0)) := (pe_fI f h.1.1).trans (congrArg some (h.2.2.1 f hf))
theorem ls_al_lt (f : Nat) : ls_al f < 2 ^ 31 := by
  unfold ls_al
  split <;> decide
theorem ls_aI {n : Nat} {σ : ls_S} {B M : mm_M} (h : ls_M n σ B M) (f j : Nat) (hf : f ∈ ls_aF) (hj : j < ls_al f) : mm_aI M (some (ls_ad n f)) (ls_ak f) (nI j) = some (ls_en f (σ f j)) := (pe_aI (h.1.2.1 f hf).2 hj (ls_al_lt f)).trans (congrArg some (h.2.1 f hf j hj))
theorem ls_ad_lt {f : Nat} (hf : f ∈ ls_aF ∨ f = 38) : 1 ≤ ls_ao f ∧ ls_ao f ≤ 31 := by
  have h : ∀ f, f ∈ ls_aF → 1 ≤ ls_ao f ∧ ls_ao f ≤ 31 := by decide
  rcases hf with hf | rfl
  · exact h f hf
  · decide
theorem ls_ad_ne {f g : Nat} (hf : f ∈ ls_aF ∨ f = 38) (hg : g ∈ ls_aF ∨ g = 38) (n : Nat) (h : ls_ad n f = ls_ad n g) : f = g := by
  have H : ∀ f, f ∈ 38 :: ls_aF → ∀ g, g ∈ 38 :: ls_aF → ls_ao f = ls_ao g → f = g := by decide
  refine H f ?_ g ?_ ?_
  · rcases hf with hf | rfl
    · exact List.mem_cons_of_mem _ hf
    · exact List.mem_cons_self
  · rcases hg with hg | rfl
    · exact List.mem_cons_of_mem _ hg
    · exact List.mem_cons_self
  · unfold ls_ad at h; omega
theorem ls_mf_I {n : Nat} {B M : mm_M} (h : ls_mf n B M) {a : Nat} (ha : n + 31 ≤ a ∧ a < n + 63) (k : Nat) (v : Int32) : ls_mf n B (mm_sI M a k v) := by
  refine ⟨h.1, h.2.1, h.2.2.1, fun b hb => ⟨fun j => ?_, fun j => (h.2.2.2 b hb).2 j⟩⟩
  rw [mm_II, if_neg (by omega)]
  exact (h.2.2.2 b hb).1 j
theorem ls_pI {n : Nat} {σ : ls_S} {B M : mm_M} (h : ls_M n σ B M) (f v : Nat) (hf : f ∈ ls_sF) : ∃ M1, mm_pI M (some (n + 31)) 11 f (ls_en f v) = some M1 ∧ ls_M n (mm_u σ f 0 v) B M1 := by
  refine ⟨_, pe_pI f _ h.1.1, h.1, fun g hg j hj => ?_, fun g hg => ?_, fun j hj => ?_, ls_mf_I h.2.2.2.2 (by omega) _ _⟩
  · have := ls_ad_lt (Or.inl hg)
    have hfg : ∀ f, f ∈ ls_sF → ∀ g, g ∈ ls_aF → ¬ g = f := by decide
    rw [mm_II, if_neg (by unfold ls_ad; omega), mm_u, if_neg (fun e => hfg f hf g hg e.1)]
    exact h.2.1 g hg j hj
  · rw [mm_II]
    by_cases e : g = f
    · subst e; rw [if_pos ⟨rfl, rfl⟩, mm_u, if_pos ⟨rfl, rfl⟩]
    · rw [if_neg (fun q => e q.2), mm_u, if_neg (fun q => e q.1)]; exact h.2.2.1 g hg
  · have hf8 : ∀ f, f ∈ ls_sF → ¬ 38 = f := by decide
    rw [mm_u, if_neg (fun e => hf8 f hf e.1)]
    exact h.2.2.2.1 j hj
theorem ls_pZ {n : Nat} {σ : ls_S} {B M : mm_M} (h : ls_M n σ B M) (f v : Nat) (hf : f ∈ ls_sF) (hv : ls_en f v = 0 ∨ ls_en f v = 1) : ∃ M1, mm_pZ M (some (n + 31)) 11 f (ls_en f v) = some M1 ∧ ls_M n (mm_u σ f 0 v) B M1 := by
  obtain ⟨M1, e1, h1⟩ := ls_pI h f v hf
  refine ⟨M1, ?_, h1⟩
  rw [pe_pZ f h.1.1 hv, ← e1, pe_pI f _ h.1.1]
theorem ls_t {n : Nat} {σ : ls_S} {B M : mm_M} (h : ls_M n σ B M) (f j v : Nat) (hf : f ∈ ls_aF) : ls_M n (mm_u σ f j v) B (mm_sI M (ls_ad n f) j (ls_en f v)) := by
  have hl := ls_ad_lt (Or.inl hf)
  refine ⟨h.1, fun g hg i hi => ?_, fun g hg => ?_, fun i hi => ?_, ls_mf_I h.2.2.2.2 (by unfold ls_ad; omega) _ _⟩
  · rw [mm_II]
    by_cases e : g = f
    · subst e
      by_cases e2 : i = j
      · subst e2; rw [if_pos ⟨rfl, rfl⟩, mm_u, if_pos ⟨rfl, rfl⟩]
      · rw [if_neg (fun q => e2 q.2), mm_u, if_neg (fun q => e2 q.2)]; exact h.2.1 g hg i hi
    · rw [if_neg (fun q => e (ls_ad_ne (Or.inl hg) (Or.inl hf) n q.1)), mm_u, if_neg (fun q => e q.1)]; exact h.2.1 g hg i hi
  · have hfg : ∀ f, f ∈ ls_aF → ∀ g, g ∈ ls_sF → ¬ g = f := by decide
    rw [mm_II, if_neg (by unfold ls_ad; omega), mm_u, if_neg (fun e => hfg f hf g hg e.1)]
    exact h.2.2.1 g hg
  · have hf8 : ∀ f, f ∈ ls_aF → ¬ 38 = f := by decide
    rw [mm_u, if_neg (fun e => hf8 f hf e.1)]
    exact h.2.2.2.1 i hi
theorem ls_tI {n : Nat} {σ : ls_S} {B M : mm_M} (h : ls_M n σ B M) (f j v : Nat) (hf : f ∈ ls_aF) (hk : ls_ak f = 12) (hj : j < ls_al f) : ∃ M1, mm_tI M (some (ls_ad n f)) (nI j) (ls_en f v) = some M1 ∧ ls_M n (mm_u σ f j v) B M1 :=
  ⟨_, pe_tI _ (by rw [(h.1.2.1 f hf).2, hk]) hj (ls_al_lt f), ls_t h f j v hf⟩
theorem ls_tZ {n : Nat} {σ : ls_S} {B M : mm_M} (h : ls_M n σ B M) (f j v : Nat) (hf : f ∈ ls_aF) (hk : ls_ak f = 14) (hj : j < ls_al f) (hv : ls_en f v = 0 ∨ ls_en f v = 1) : ∃ M1, mm_tZ M (some (ls_ad n f)) (nI j) (ls_en f v) = some M1 ∧ ls_M n (mm_u σ f j v) B M1 :=
  ⟨_, pe_tZ (by rw [(h.1.2.1 f hf).2, hk]) hj (ls_al_lt f) hv, ls_t h f j v hf⟩
-- the model's scratch
def ls_nx (f : Nat) : Prop := ¬ (29 ≤ f ∧ f ≤ 33) ∧ f ≠ 45
/-- the same but for scratch -/
def ls_v (σ τ : ls_S) : Prop := ∀ f, ls_nx f → τ f = σ f
theorem ls_v_rf (σ : ls_S) : ls_v σ σ := fun _ _ => rfl
theorem ls_v_tr {σ τ υ : ls_S} (h : ls_v σ τ) (h2 : ls_v τ υ) : ls_v σ υ := fun f hf => (h2 f hf).trans (h f hf)
theorem ls_v_u {σ τ : ls_S} (h : ls_v σ τ) {f j v : Nat} (hf : ¬ ls_nx f) : ls_v σ (mm_u τ f j v) := fun g hg => by
  funext i
  rw [mm_u, if_neg (show ¬ (g = f ∧ i = j) from fun e => hf (e.1 ▸ hg)), h g hg]
/-- a memory: strength, ease, box, day and one, agains -/
abbrev ls_V : Type := Nat × Nat × Nat × Nat × Nat
def ls_sc (σ : ls_S) : ls_V := (σ 29 0, σ 30 0, σ 31 0, σ 32 0, σ 33 0)
def ls_at (σ : ls_S) (q : Nat) : ls_V := (σ 13 q, σ 14 q, σ 15 q, σ 16 q, σ 17 q)
def ls_ok (v : ls_V) (t : Nat) : Prop := (v.1 = 0 ∨ 500 ≤ v.1) ∧ v.1 ≤ 4000000 ∧ 1300 ≤ v.2.1 ∧ v.2.1 ≤ 3500 ∧ v.2.2.1 ≤ 9 ∧ v.2.2.2.1 ≤ t + 1 ∧ v.2.2.2.2 ≤ 100000
def ls_F : Nat → Nat
  | 0 => 1000
  | k + 1 => ls_F k * 9934 / 10000
def ls_ch (v : ls_V) (on : Nat) : Nat := ls_F (16000 * (on + 1 - v.2.2.2.1) / v.1)
def ls_kp (v a b : Nat) : Nat := if v < a then a else if b < v then b else v
def ls_aB (r by_ a on : Nat) (v : ls_V) : ls_V :=
  if r = 0 then (1000 * 2 ^ (if a = 0 then 0 else if 9 < v.2.2.1 + a - 1 then 9 else v.2.2.1 + a - 1), v.2.1, (if a = 0 then 0 else if 9 < v.2.2.1 + a - 1 then 9 else v.2.2.1 + a - 1), on + 1, v.2.2.2.2 + if a = 0 then 1 else 0)
  else if v.1 = 0 then ((if a = 0 then 500 else if a = 1 then 1000 else if a = 3 then 6000 else 2500), v.2.1, v.2.2.1, on + 1, v.2.2.2.2 + if a = 0 then 1 else 0)
  else if r = 2 then (ls_kp (v.1 * by_ / 1000) 500 4000000, v.2.1, v.2.2.1, on + 1, v.2.2.2.2 + if a = 0 then 1 else 0)
  else (ls_kp (if a = 0 then v.1 / 5 else if a = 1 then v.1 * (1000 + (1200 - ls_ch v on)) / 1000 else if a = 3 then v.1 * (1000 + (v.2.1 - 1000) * (1900 - ls_ch v on) / 1000) / 1000 * 1300 / 1000 else v.1 * (1000 + (v.2.1 - 1000) * (1900 - ls_ch v on) / 1000) / 1000) 500 4000000,
    ls_kp (if a = 0 then v.2.1 - 200 else if a = 1 then v.2.1 - 150 else if a = 3 then v.2.1 + 150 else v.2.1) 1300 3500, v.2.2.1, on + 1, v.2.2.2.2 + if a = 0 then 1 else 0)
abbrev ls_due (v : ls_V) (on : Nat) : Prop := 0 < v.1 ∧ v.2.2.2.2 < 8 ∧ ls_ch v on < 900
abbrev ls_kn (v : ls_V) (on : Nat) : Prop := 0 < v.1 ∧ v.2.2.2.2 < 8 ∧ 900 ≤ ls_ch v on
