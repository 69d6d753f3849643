-- the memory: what each cell is (class number or array kind, length), int parts, references, longs, the next address, the JDK's empty array
abbrev mm_M : Type := (Nat → Option (Nat × Nat)) × (Nat → Nat → Int32) × (Nat → Nat → Option Nat) × (Nat → Nat → Int64) × Nat × Nat
def mm_u {α : Type} (f : Nat → Nat → α) (a k : Nat) (v : α) : Nat → Nat → α := fun b j => if b = a ∧ j = k then v else f b j
def mm_k (M : mm_M) (a : Nat) : Option (Nat × Nat) := M.1 a
def mm_I (M : mm_M) (a k : Nat) : Int32 := M.2.1 a k
def mm_R (M : mm_M) (a k : Nat) : Option Nat := M.2.2.1 a k
def mm_L (M : mm_M) (a k : Nat) : Int64 := M.2.2.2.1 a k
def mm_n (M : mm_M) : Nat := M.2.2.2.2.1
def mm_z (M : mm_M) : Nat := M.2.2.2.2.2
def mm_sI (M : mm_M) (a k : Nat) (v : Int32) : mm_M := (M.1, mm_u M.2.1 a k v, M.2.2)
def mm_sR (M : mm_M) (a k : Nat) (v : Option Nat) : mm_M := (M.1, M.2.1, mm_u M.2.2.1 a k v, M.2.2.2)
def mm_sL (M : mm_M) (a k : Nat) (v : Int64) : mm_M := (M.1, M.2.1, M.2.2.1, mm_u M.2.2.2.1 a k v, M.2.2.2.2)
/-- a new cell, of zeros -/
def mm_nw (M : mm_M) (kd : Nat × Nat) : mm_M := (fun b => if b = M.2.2.2.2.1 then some kd else M.1 b, fun b k => if b = M.2.2.2.2.1 then 0 else M.2.1 b k, fun b k => if b = M.2.2.2.2.1 then none else M.2.2.1 b k, fun b k => if b = M.2.2.2.2.1 then 0 else M.2.2.2.1 b k, M.2.2.2.2.1 + 1, M.2.2.2.2.2)
-- what the cells are to the kit
/-- an object's fields: 0 an int, else a reference -/
def mm_fl : List Nat → Nat → (Nat → Int32) → (Nat → Option Nat) → List Value
  | [], _, _, _ => []
  | t :: ts, k, f, g => (if t = 0 then Value.int (f k) else va_rf (g k)) :: mm_fl ts (k + 1) f g
def mm_ft : Nat → List Nat
  | 0 => [0, 1, 0]
  | 1 => [1, 0]
  | 2 => [1, 0]
  | 3 => [1, 1, 1]
  | 4 => [0, 0, 0, 0, 0, 0, 1]
  | 5 => [1, 0, 1, 1, 0]
  | 6 => [1]
  | 7 => [1, 1, 0, 0]
  | 8 => [1, 0, 0, 0, 0, 0]
  | 9 => [0, 0, 0, 0, 0, 0, 0]
  | 10 => [1, 1, 1, 1, 1, 1, 1, 1, 0, 0, 0]
  | 11 => [1, 1, 1, 0, 0, 1, 0, 0, 1, 1, 1, 1, 1, 1, 1, 1, 1, 1, 1, 1, 1, 1, 1, 1, 1, 1, 1, 1, 0, 0, 0, 0, 0, 0, 1, 1, 1, 0, 1, 0, 0, 0, 0, 0, 1, 0, 1, 1]
  | _ => []
/-- the array kinds: 12 int, 13 long, 14 boolean, 15 Learner, 16 Memory, 17 Object; 18: the JDK's own empty array, which nobody writes -/
def mm_ce (cy : Nat → ClassId) (M : mm_M) (a : Nat) : va_E := match M.1 a with
  | none => .inr (0, [])
  | some (k, n) => if k < 12 then .inr (k, mm_fl (mm_ft k) 0 (M.2.1 a) (M.2.2.1 a)) else if k = 13 then .inl (cy k, n, .inr (.inl (M.2.2.2.1 a))) else if k = 12 ∨ k = 14 then .inl (cy k, n, .inl (M.2.1 a)) else .inl (cy k, n, .inr (.inr (.inr (.inr (M.2.2.1 a)))))
def mm_aty : Nat → FieldType
  | 12 => .int
  | 13 => .long
  | 14 => .boolean
  | 15 => .object "LessonCards$Learner"
  | 16 => .object "LessonCards$Memory"
  | _ => .object "java/lang/Object"
def mm_tys (cy : Nat → ClassId) : List (ClassId × FieldType) := [(cy 12, mm_aty 12), (cy 13, mm_aty 13), (cy 14, mm_aty 14), (cy 15, mm_aty 15), (cy 16, mm_aty 16), (cy 17, mm_aty 17)]
/-- what a method may write: the cells of the memory, and new ones -/
def mm_D (M : mm_M) : Nat → Prop := fun q => (∃ k n, M.1 q = some (k, n) ∧ k < 18) ∨ mm_n M ≤ q
/-- the heap holds the memory -/
def mm_h (G : va_G) (cy : Nat → ClassId) (M : mm_M) (H : Heap) : Prop := H.size = mm_n M ∧ ∃ L : List Nat, (∀ a, a ∈ L ↔ ∃ k n, M.1 a = some (k, n) ∧ k < 18) ∧ va_P G vwCl (va_pl L (mm_ce cy M)) H ∧ va_D (mm_D M) (va_pl L (mm_ce cy M))
/-- the tables' words that a method needs -/
def mm_gt : List Cond := lw_tbl.filter goodWord
def mm_nk : Cond → Bool
  | .fieldLinkNest .. => true
  | .methodLinkNest .. => true
  | .castable .. => true
  | .declares _ => true
  | _ => false
def mm_nt : List Cond := lw_tbl.filter mm_nk
/-- what is known of the machine's tables and of the one static -/
def mm_v (G : va_G) (cy : Nat → ClassId) (U : State) : Prop := va_K G vwCl (mm_tys cy) U ∧ (∀ w ∈ mm_nt, va_Nw w U) ∧ va_AO "LessonCards$Learner" U ∧ va_AO "LessonCards$Memory" U ∧ va_AO "java/lang/Object" U ∧ va_Mi "[Ljava/lang/Object;" (cy 30) U
def mm_s (A : Nat → Prop) (M : mm_M) (U : State) (H : Heap) : Prop := M.1 (mm_z M) = some (18, 0) ∧ (∀ a n, M.1 a = some (18, n) → a = mm_z M ∧ n = 0) ∧ va_T (.object "java/lang/Object") (mm_z M) 0 (fun _ => .null) A U H ∧ va_Z "java/util/ArrayList" "DEFAULTCAPACITY_EMPTY_ELEMENTDATA" "[Ljava/lang/Object;" (.ref (mm_z M)) A U H
-- plain facts
theorem mm_kI (M : mm_M) (a k : Nat) (v : Int32) (b : Nat) : mm_k (mm_sI M a k v) b = mm_k M b := rfl
theorem mm_kR (M : mm_M) (a k : Nat) (v : Option Nat) (b : Nat) : mm_k (mm_sR M a k v) b = mm_k M b := rfl
theorem mm_kL (M : mm_M) (a k : Nat) (v : Int64) (b : Nat) : mm_k (mm_sL M a k v) b = mm_k M b := rfl
theorem mm_II (M : mm_M) (a k : Nat) (v : Int32) (b j : Nat) : mm_I (mm_sI M a k v) b j = if b = a ∧ j = k then v else mm_I M b j := rfl
theorem mm_IR (M : mm_M) (a k : Nat) (v : Option Nat) (b j : Nat) : mm_I (mm_sR M a k v) b j = mm_I M b j := rfl
theorem mm_IL (M : mm_M) (a k : Nat) (v : Int64) (b j : Nat) : mm_I (mm_sL M a k v) b j = mm_I M b j := rfl
theorem mm_RI (M : mm_M) (a k : Nat) (v : Int32) (b j : Nat) : mm_R (mm_sI M a k v) b j = mm_R M b j := rfl
theorem mm_RR (M : mm_M) (a k : Nat) (v : Option Nat) (b j : Nat) : mm_R (mm_sR M a k v) b j = if b = a ∧ j = k then v else mm_R M b j := rfl
theorem mm_RL (M : mm_M) (a k : Nat) (v : Int64) (b j : Nat) : mm_R (mm_sL M a k v) b j = mm_R M b j := rfl
theorem mm_LI (M : mm_M) (a k : Nat) (v : Int32) (b j : Nat) : mm_L (mm_sI M a k v) b j = mm_L M b j := rfl
theorem mm_LR (M : mm_M) (a k : Nat) (v : Option Nat) (b j : Nat) : mm_L (mm_sR M a k v) b j = mm_L M b j := rfl
theorem mm_LL (M : mm_M) (a k : Nat) (v : Int64) (b j : Nat) : mm_L (mm_sL M a k v) b j = if b = a ∧ j = k then v else mm_L M b j := rfl
theorem mm_nI (M : mm_M) (a k : Nat) (v : Int32) : mm_n (mm_sI M a k v) = mm_n M := rfl
theorem mm_nR (M : mm_M) (a k : Nat) (v : Option Nat) : mm_n (mm_sR M a k v) = mm_n M := rfl
theorem mm_nL (M : mm_M) (a k : Nat) (v : Int64) : mm_n (mm_sL M a k v) = mm_n M := rfl
theorem mm_zI (M : mm_M) (a k : Nat) (v : Int32) : mm_z (mm_sI M a k v) = mm_z M := rfl
theorem mm_zR (M : mm_M) (a k : Nat) (v : Option Nat) : mm_z (mm_sR M a k v) = mm_z M := rfl
theorem mm_zL (M : mm_M) (a k : Nat) (v : Int64) : mm_z (mm_sL M a k v) = mm_z M := rfl
theorem mm_kw (M : mm_M) (kd : Nat × Nat) (b : Nat) : mm_k (mm_nw M kd) b = if b = mm_n M then some kd else mm_k M b := rfl
theorem mm_Iw (M : mm_M) (kd : Nat × Nat) (b j : Nat) : mm_I (mm_nw M kd) b j = if b = mm_n M then 0 else mm_I M b j := rfl
theorem mm_Rw (M : mm_M) (kd : Nat × Nat) (b j : Nat) : mm_R (mm_nw M kd) b j = if b = mm_n M then none else mm_R M b j := rfl
theorem mm_Lw (M : mm_M) (kd : Nat × Nat) (b j : Nat) : mm_L (mm_nw M kd) b j = if b = mm_n M then 0 else mm_L M b j := rfl
theorem mm_nW (M : mm_M) (kd : Nat × Nat) : mm_n (mm_nw M kd) = mm_n M + 1 := rfl
theorem mm_zw (M : mm_M) (kd : Nat × Nat) : mm_z (mm_nw M kd) = mm_z M := rfl
-- a memory's later form: nothing is lost
/-- M1 comes of M: new cells alone are beyond M's -/
def mm_x (M M1 : mm_M) : Prop := mm_n M ≤ mm_n M1 ∧ mm_z M1 = mm_z M ∧ ∀ q, mm_D M1 q → mm_D M q
theorem mm_x_rf (M : mm_M) : mm_x M M := ⟨Nat.le_refl _, rfl, fun _ h => h⟩
theorem mm_x_tr {M M1 M2 : mm_M} (h : mm_x M M1) (h2 : mm_x M1 M2) : mm_x M M2 := ⟨Nat.le_trans h.1 h2.1, h2.2.1.trans h.2.1, fun q hq => h.2.2 q (h2.2.2 q hq)⟩
theorem mm_x_I (M : mm_M) (a k : Nat) (v : Int32) : mm_x M (mm_sI M a k v) := ⟨Nat.le_refl _, rfl, fun _ h => h⟩
theorem mm_x_R (M : mm_M) (a k : Nat) (v : Option Nat) : mm_x M (mm_sR M a k v) := ⟨Nat.le_refl _, rfl, fun _ h => h⟩
theorem mm_x_L (M : mm_M) (a k : Nat) (v : Int64) : mm_x M (mm_sL M a k v) := ⟨Nat.le_refl _, rfl, fun _ h => h⟩
theorem mm_x_w (M : mm_M) (kd : Nat × Nat) : mm_x M (mm_nw M kd) := by
  refine ⟨Nat.le_succ _, rfl, fun q h => ?_⟩
  rcases h with ⟨k, n, h, hk⟩ | h
  · by_cases hq : q = mm_n M
    · exact Or.inr (by omega)
    · refine Or.inl ⟨k, n, ?_, hk⟩
      have h2 : (if q = mm_n M then some kd else M.1 q) = some (k, n) := h
      rwa [if_neg hq] at h2
  · exact Or.inr (Nat.le_of_succ_le h)
theorem mm_fl_get : ∀ (ts : List Nat) (k0 : Nat) (f : Nat → Int32) (g : Nat → Option Nat) (k : Nat), (mm_fl ts k0 f g)[k]? = ts[k]?.map (fun t => if t = 0 then Value.int (f (k0 + k)) else va_rf (g (k0 + k)))
  | [], _, _, _, k => by simp [mm_fl]
  | t :: ts, k0, f, g, 0 => by simp [mm_fl]
  | t :: ts, k0, f, g, k + 1 => by
    rw [mm_fl, List.getElem?_cons_succ, List.getElem?_cons_succ, mm_fl_get ts (k0 + 1) f g k, show k0 + 1 + k = k0 + (k + 1) by omega]
theorem mm_fl_len : ∀ (ts : List Nat) (k0 : Nat) (f : Nat → Int32) (g : Nat → Option Nat), (mm_fl ts k0 f g).length = ts.length
  | [], _, _, _ => rfl
  | t :: ts, k0, f, g => by rw [mm_fl, List.length_cons, mm_fl_len, List.length_cons]
theorem mm_fl_I {ts : List Nat} {f : Nat → Int32} {g : Nat → Option Nat} {k : Nat} {v : Int32} (h : ts[k]? = some 0) : (mm_fl ts 0 f g).set k (.int v) = mm_fl ts 0 (fun j => if j = k then v else f j) g := by
  apply List.ext_getElem?
  intro j
  have hl := (List.getElem?_eq_some_iff.mp h).1
  by_cases hj : k = j
  · subst hj
    rw [List.getElem?_set_self (by rw [mm_fl_len]; exact hl), mm_fl_get, h]
    simp
  · rw [List.getElem?_set_ne hj, mm_fl_get, mm_fl_get, Nat.zero_add, if_neg (Ne.symm hj)]
theorem mm_fl_R {ts : List Nat} {f : Nat → Int32} {g : Nat → Option Nat} {k : Nat} {v : Option Nat} (h : ts[k]? = some 1) : (mm_fl ts 0 f g).set k (va_rf v) = mm_fl ts 0 f (fun j => if j = k then v else g j) := by
  apply List.ext_getElem?
  intro j
  have hl := (List.getElem?_eq_some_iff.mp h).1
  by_cases hj : k = j
  · subst hj
    rw [List.getElem?_set_self (by rw [mm_fl_len]; exact hl), mm_fl_get, h]
    simp
  · rw [List.getElem?_set_ne hj, mm_fl_get, mm_fl_get, Nat.zero_add, if_neg (Ne.symm hj)]
theorem mm_u_at {α : Type} (f : Nat → Nat → α) (a k : Nat) (v : α) : mm_u f a k v a = fun j => if j = k then v else f a j := by
  funext j
  simp [mm_u]
theorem mm_u_ne {α : Type} (f : Nat → Nat → α) {a b : Nat} (k : Nat) (v : α) (h : b ≠ a) : mm_u f a k v b = f b := by
  funext j
  simp [mm_u, h]
/-- one cell changed, the others as they were -/
theorem mm_ce_up {cy : Nat → ClassId} {M M1 : mm_M} {a : Nat} {e : va_E} (ha : mm_ce cy M1 a = e) (h : ∀ b, b ≠ a → mm_ce cy M1 b = mm_ce cy M b) : ∀ b, va_up (mm_ce cy M) a e b = mm_ce cy M1 b := by
  intro b
  by_cases hb : b = a
  · subst hb
    rw [va_up_self, ha]
  · rw [va_up_ne _ _ hb, h b hb]
theorem mm_ce_ne {cy : Nat → ClassId} {M M1 : mm_M} {b : Nat} (h1 : M1.1 b = M.1 b) (h2 : M1.2.1 b = M.2.1 b) (h3 : M1.2.2.1 b = M.2.2.1 b) (h4 : M1.2.2.2.1 b = M.2.2.2.1 b) : mm_ce cy M1 b = mm_ce cy M b := by
  unfold mm_ce
  rw [h1, h2, h3, h4]
theorem mm_ce_obj {cy : Nat → ClassId} {M : mm_M} {a k n : Nat} (h : M.1 a = some (k, n)) (hk : k < 12) : mm_ce cy M a = .inr (k, mm_fl (mm_ft k) 0 (M.2.1 a) (M.2.2.1 a)) := by
  simp only [mm_ce, h, if_pos hk]
theorem mm_ce_i {cy : Nat → ClassId} {M : mm_M} {a n : Nat} (h : M.1 a = some (12, n)) : mm_ce cy M a = .inl (cy 12, n, .inl (M.2.1 a)) := by simp [mm_ce, h]
theorem mm_ce_z {cy : Nat → ClassId} {M : mm_M} {a n : Nat} (h : M.1 a = some (14, n)) : mm_ce cy M a = .inl (cy 14, n, .inl (M.2.1 a)) := by simp [mm_ce, h]
theorem mm_ce_l {cy : Nat → ClassId} {M : mm_M} {a n : Nat} (h : M.1 a = some (13, n)) : mm_ce cy M a = .inl (cy 13, n, .inr (.inl (M.2.2.2.1 a))) := by simp [mm_ce, h]
theorem mm_ce_q {cy : Nat → ClassId} {M : mm_M} {a k n : Nat} (h : M.1 a = some (k, n)) (hk : 15 ≤ k) : mm_ce cy M a = .inl (cy k, n, .inr (.inr (.inr (.inr (M.2.2.1 a))))) := by
  simp only [mm_ce, h, if_neg (show ¬ k < 12 by omega), if_neg (show ¬ k = 13 by omega), if_neg (show ¬ (k = 12 ∨ k = 14) by omega)]
theorem mm_in_gt {w : Cond} (k : Nat) (h : lw_tbl[k]? = some w) (hg : goodWord w = true) : w ∈ mm_gt := List.mem_filter.mpr ⟨List.mem_of_getElem? h, hg⟩
theorem mm_in_nt {w : Cond} (k : Nat) (h : lw_tbl[k]? = some w) (hg : mm_nk w = true) : w ∈ mm_nt := List.mem_filter.mpr ⟨List.mem_of_getElem? h, hg⟩
theorem mm_gi {w : Cond} {y : Cond} (hw : w ∈ mm_gt) : GoodIn (y :: mm_gt) (w :: mm_gt) := by
  intro v hv
  rcases List.mem_cons.mp hv with rfl | hv
  · exact ⟨List.mem_cons_of_mem _ hw, good_of_word (List.mem_filter.mp hw).2⟩
  · exact ⟨List.mem_cons_of_mem _ hv, good_of_word (List.mem_filter.mp hv).2⟩
