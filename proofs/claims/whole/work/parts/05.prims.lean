-- what the instructions do to the memory, where they may
def mm_gd {α : Type} (c : Prop) [Decidable c] (x : Option α) : Option α := if c then x else none
def mm_b2 {α β γ : Type} (x : Option (α × β)) (F : α → β → Option γ) : Option γ := match x with
  | none => none
  | some q => F q.1 q.2
def mm_le {α β : Type} (x : α) (F : α → Option β) : Option β := F x
def mm_mp {α β : Type} (x : Option α) : Option (β ⊕ α) := match x with
  | none => none
  | some y => some (.inr y)
def mm_fI (M : mm_M) (r : Option Nat) (ci k : Nat) : Option Int32 := match r with
  | none => none
  | some a => if mm_k M a = some (ci, 0) then some (mm_I M a k) else none
def mm_fR (M : mm_M) (r : Option Nat) (ci k : Nat) : Option (Option Nat) := match r with
  | none => none
  | some a => if mm_k M a = some (ci, 0) then some (mm_R M a k) else none
def mm_pI (M : mm_M) (r : Option Nat) (ci k : Nat) (v : Int32) : Option mm_M := match r with
  | none => none
  | some a => if mm_k M a = some (ci, 0) then some (mm_sI M a k v) else none
def mm_pZ (M : mm_M) (r : Option Nat) (ci k : Nat) (v : Int32) : Option mm_M := match r with
  | none => none
  | some a => if mm_k M a = some (ci, 0) ∧ (v = 0 ∨ v = 1) then some (mm_sI M a k v) else none
def mm_pR (M : mm_M) (r : Option Nat) (ci k : Nat) (v : Option Nat) : Option mm_M := match r with
  | none => none
  | some a => if mm_k M a = some (ci, 0) then some (mm_sR M a k v) else none
/-- the length of an array of the kind kd -/
def mm_al (M : mm_M) (r : Option Nat) (kd : Nat) : Option Nat := match r with
  | none => none
  | some a => match mm_k M a with
    | none => none
    | some q => if q.1 = kd then some q.2 else none
def mm_aI (M : mm_M) (r : Option Nat) (kd : Nat) (i : Int32) : Option Int32 := match r with
  | none => none
  | some a => match mm_k M a with
    | none => none
    | some q => if q.1 = kd ∧ ¬ (i < 0 ∨ q.2 ≤ i.toNatClampNeg) then some (mm_I M a i.toNatClampNeg) else none
def mm_aL (M : mm_M) (r : Option Nat) (i : Int32) : Option Int64 := match r with
  | none => none
  | some a => match mm_k M a with
    | none => none
    | some q => if q.1 = 13 ∧ ¬ (i < 0 ∨ q.2 ≤ i.toNatClampNeg) then some (mm_L M a i.toNatClampNeg) else none
def mm_aR (M : mm_M) (r : Option Nat) (kd : Nat) (i : Int32) : Option (Option Nat) := match r with
  | none => none
  | some a => match mm_k M a with
    | none => none
    | some q => if q.1 = kd ∧ ¬ (i < 0 ∨ q.2 ≤ i.toNatClampNeg) then some (mm_R M a i.toNatClampNeg) else none
def mm_tI (M : mm_M) (r : Option Nat) (i : Int32) (v : Int32) : Option mm_M := match r with
  | none => none
  | some a => match mm_k M a with
    | none => none
    | some q => if q.1 = 12 ∧ ¬ (i < 0 ∨ q.2 ≤ i.toNatClampNeg) then some (mm_sI M a i.toNatClampNeg v) else none
def mm_tZ (M : mm_M) (r : Option Nat) (i : Int32) (v : Int32) : Option mm_M := match r with
  | none => none
  | some a => match mm_k M a with
    | none => none
    | some q => if q.1 = 14 ∧ ¬ (i < 0 ∨ q.2 ≤ i.toNatClampNeg) ∧ (v = 0 ∨ v = 1) then some (mm_sI M a i.toNatClampNeg v) else none
def mm_tL (M : mm_M) (r : Option Nat) (i : Int32) (v : Int64) : Option mm_M := match r with
  | none => none
  | some a => match mm_k M a with
    | none => none
    | some q => if q.1 = 13 ∧ ¬ (i < 0 ∨ q.2 ≤ i.toNatClampNeg) then some (mm_sL M a i.toNatClampNeg v) else none
/-- may the reference v stand in an array of the kind kd? -/
def mm_may (M : mm_M) (kd : Nat) (v : Option Nat) : Prop := match v with
  | none => True
  | some b => match mm_k M b with
    | none => False
    | some q => q.1 < 12 ∧ ((kd = 15 ∧ q.1 = 7) ∨ (kd = 16 ∧ q.1 = 9) ∨ kd = 17)
def mm_tR (M : mm_M) (r : Option Nat) (kd : Nat) (i : Int32) (v : Option Nat) : Option mm_M := match r with
  | none => none
  | some a => match mm_k M a with
    | none => none
    | some q => match v with
      | none => if q.1 = kd ∧ ¬ (i < 0 ∨ q.2 ≤ i.toNatClampNeg) then some (mm_sR M a i.toNatClampNeg none) else none
      | some b => match mm_k M b with
        | none => none
        | some w => if (q.1 = kd ∧ ¬ (i < 0 ∨ q.2 ≤ i.toNatClampNeg)) ∧ w.1 < 12 ∧ ((kd = 15 ∧ w.1 = 7) ∨ (kd = 16 ∧ w.1 = 9) ∨ kd = 17) then some (mm_sR M a i.toNatClampNeg (some b)) else none
/-- an array's length, as the machine tells it -/
def mm_ln (M : mm_M) (r : Option Nat) : Option Int32 := match r with
  | none => none
  | some a => match mm_k M a with
    | none => none
    | some q => if 12 ≤ q.1 ∧ q.1 ≤ 18 then some (nI q.2) else none
/-- a new array of at most lim places -/
def mm_na (M : mm_M) (kd : Nat) (i : Int32) (lim : Nat) : Option mm_M := if ¬ i < 0 ∧ i.toNatClampNeg ≤ lim then some (mm_nw M (kd, i.toNatClampNeg)) else none
/-- a cast to an own class -/
def mm_cc (M : mm_M) (r : Option Nat) (ci : Nat) : Option Unit := match r with
  | none => some ()
  | some a => if mm_k M a = some (ci, 0) then some () else none
/-- the receiver of a call: an object of its class -/
def mm_rc (M : mm_M) (r : Option Nat) (ci : Nat) : Option Unit := match r with
  | none => none
  | some a => if mm_k M a = some (ci, 0) then some () else none
def mm_dI (x y : Int32) : Option Int32 := if y = 0 then none else some (x / y)
def mm_mI (x y : Int32) : Option Int32 := if y = 0 then none else some (x - x / y * y)
def mm_dL (x y : Int64) : Option Int64 := if y = 0 then none else some (x / y)
def mm_mL (x y : Int64) : Option Int64 := if y = 0 then none else some (x - x / y * y)
theorem mm_gd_e {α : Type} {c : Prop} [Decidable c] {x : Option α} {y : α} (h : mm_gd c x = some y) : c ∧ x = some y := by
  unfold mm_gd at h
  split at h
  · exact ⟨by assumption, h⟩
  · cases h
theorem mm_le_e {α β : Type} {x : α} {F : α → Option β} {y : β} (h : mm_le x F = some y) : ∃ a, a = x ∧ F a = some y := ⟨x, rfl, h⟩
theorem mm_bd_e {α β : Type} {x : Option α} {F : α → Option β} {y : β} (h : x.bind F = some y) : ∃ a, x = some a ∧ F a = some y := by
  cases x with
  | none => cases h
  | some a => exact ⟨a, rfl, h⟩
theorem mm_b2_e {α β γ : Type} {x : Option (α × β)} {F : α → β → Option γ} {y : γ} (h : mm_b2 x F = some y) : ∃ a b, x = some (a, b) ∧ F a b = some y := by
  cases x with
  | none => cases h
  | some q => exact ⟨q.1, q.2, rfl, h⟩
theorem mm_mp_e {α β : Type} {x : Option α} {y : β ⊕ α} (h : mm_mp (β := β) x = some y) : ∃ z, x = some z ∧ y = .inr z := by
  cases x with
  | none => cases h
  | some z => exact ⟨z, rfl, (Option.some.inj h).symm⟩
theorem mm_if_e {α : Type} {c : Prop} [Decidable c] {x z : Option α} {y : α} (h : (if c then x else z) = some y) : (c ∧ x = some y) ∨ (¬ c ∧ z = some y) := by
  split at h
  · exact Or.inl ⟨by assumption, h⟩
  · exact Or.inr ⟨by assumption, h⟩
-- a loop: its body goes on with a new state, or ends
def mm_lp {σ ρ : Type} (body : σ → Option (σ ⊕ ρ)) : Nat → σ → Option ρ
  | 0, _ => none
  | n + 1, x => match body x with
    | none => none
    | some (.inl y) => mm_lp body n y
    | some (.inr r) => some r
theorem mm_lp_up {σ ρ : Type} {body : σ → Option (σ ⊕ ρ)} {r : ρ} : ∀ {n : Nat} {x : σ}, mm_lp body n x = some r → mm_lp body (n + 1) x = some r
  | 0, x, h => by cases h
  | n + 1, x, h => by
    unfold mm_lp at h ⊢
    cases hb : body x with
    | none => rw [hb] at h; cases h
    | some q =>
      rw [hb] at h
      cases q with
      | inl y => exact mm_lp_up (n := n) h
      | inr z => exact h
theorem mm_lp_le {σ ρ : Type} {body : σ → Option (σ ⊕ ρ)} {r : ρ} {n : Nat} {x : σ} (h : mm_lp body n x = some r) : ∀ k, mm_lp body (n + k) x = some r
  | 0 => h
  | k + 1 => mm_lp_up (mm_lp_le h k)
theorem mm_lp_one {σ ρ : Type} {body : σ → Option (σ ⊕ ρ)} {r r2 : ρ} {n m : Nat} {x : σ} (h : mm_lp body n x = some r) (h2 : mm_lp body m x = some r2) : r = r2 := by
  have a := mm_lp_le h m
  have b := mm_lp_le h2 n
  rw [Nat.add_comm] at b
  exact Option.some.inj (a.symm.trans b)
noncomputable def mm_w {σ ρ : Type} (body : σ → Option (σ ⊕ ρ)) (x : σ) : Option ρ := @dite _ (∃ n r, mm_lp body n x = some r) (Classical.propDecidable _) (fun h => mm_lp body (Classical.choose h) x) (fun _ => none)
theorem mm_w_of {σ ρ : Type} {body : σ → Option (σ ⊕ ρ)} {x : σ} {n : Nat} {r : ρ} (h : mm_lp body n x = some r) : mm_w body x = some r := by
  have hE : ∃ n r, mm_lp body n x = some r := ⟨n, r, h⟩
  unfold mm_w
  rw [dif_pos hE]
  obtain ⟨r2, h2⟩ := Classical.choose_spec hE
  rw [h2, mm_lp_one h h2]
theorem mm_w_to {σ ρ : Type} {body : σ → Option (σ ⊕ ρ)} {x : σ} {r : ρ} (h : mm_w body x = some r) : ∃ n, mm_lp body n x = some r := by
  unfold mm_w at h
  split at h
  · exact ⟨_, h⟩
  · cases h
theorem mm_w_eq {σ ρ : Type} (body : σ → Option (σ ⊕ ρ)) (x : σ) : mm_w body x = match body x with
    | none => none
    | some (.inl y) => mm_w body y
    | some (.inr r) => some r := by
  cases hb : body x with
  | none =>
    cases hw : mm_w body x with
    | none => rfl
    | some r =>
      obtain ⟨n, h⟩ := mm_w_to hw
      cases n with
      | zero => cases h
      | succ n => unfold mm_lp at h; rw [hb] at h; cases h
  | some q =>
    cases q with
    | inr z => exact mm_w_of (n := 1) (by unfold mm_lp; rw [hb])
    | inl y =>
      show mm_w body x = mm_w body y
      cases hw : mm_w body y with
      | some r =>
        obtain ⟨n, h⟩ := mm_w_to hw
        exact mm_w_of (n := n + 1) (by unfold mm_lp; rw [hb]; exact h)
      | none =>
        cases hx : mm_w body x with
        | none => rfl
        | some r =>
          obtain ⟨n, h⟩ := mm_w_to hx
          cases n with
          | zero => cases h
          | succ n =>
            unfold mm_lp at h
            rw [hb] at h
            rw [mm_w_of h] at hw
            cases hw
theorem mm_w_l {σ ρ : Type} {body : σ → Option (σ ⊕ ρ)} {x y : σ} (h : body x = some (.inl y)) : mm_w body x = mm_w body y := by rw [mm_w_eq, h]
theorem mm_w_r {σ ρ : Type} {body : σ → Option (σ ⊕ ρ)} {x : σ} {r : ρ} (h : body x = some (.inr r)) : mm_w body x = some r := by rw [mm_w_eq, h]
/-- where a loop's end goes: on with a state of which Wh holds, or out with what ok holds of -/
def mm_o {σ ρ : Type} (Wh : σ → Prop) (ok : ρ → Prop) : σ ⊕ ρ → Prop
  | .inl x => Wh x
  | .inr y => ok y
theorem mm_w_W {σ ρ : Type} {body : σ → Option (σ ⊕ ρ)} {Wh : σ → Prop} {ok : ρ → Prop} (hb : ∀ x res, body x = some res → mm_o Wh ok res → Wh x) {x : σ} {r : ρ} (h : mm_w body x = some r) (hr : ok r) : Wh x := by
  obtain ⟨n, h1⟩ := mm_w_to h
  clear h
  revert h1
  induction n generalizing x with
  | zero => intro h; cases h
  | succ n ih =>
    intro h
    unfold mm_lp at h
    cases hbx : body x with
    | none => rw [hbx] at h; cases h
    | some q =>
      rw [hbx] at h
      cases q with
      | inl y => exact hb x _ hbx (ih h)
      | inr z => cases h; exact hb x _ hbx hr
