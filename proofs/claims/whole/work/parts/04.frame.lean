-- values of the machine that the walks use, typed
abbrev mm_V : Type := Int32 ⊕ Int64 ⊕ Option Nat
abbrev mm_i (x : Int32) : mm_V := .inl x
abbrev mm_j (x : Int64) : mm_V := .inr (.inl x)
abbrev mm_r (x : Option Nat) : mm_V := .inr (.inr x)
def mm_val : mm_V → Value
  | .inl x => .int x
  | .inr (.inl x) => .long x
  | .inr (.inr r) => va_rf r
def mm_cat : mm_V → Nat
  | .inl _ => 1
  | .inr (.inl _) => 2
  | .inr (.inr _) => 1
theorem mm_val_cat (v : mm_V) : (mm_val v).category = mm_cat v := by
  rcases v with x | x | r
  · rfl
  · rfl
  · cases r <;> rfl
abbrev mm_lv (l : List (Nat × mm_V)) : List (Nat × Value) := l.map (fun q => (q.1, mm_val q.2))
abbrev mm_st (l : List mm_V) : List Value := l.map mm_val
def mm_args : Nat → List mm_V → List (Nat × mm_V)
  | _, [] => []
  | k, v :: vs => (k, v) :: mm_args (k + mm_cat v) vs
theorem mm_args_eq : ∀ (vs : List mm_V) (k : Nat), lv_args k (mm_st vs) = mm_lv (mm_args k vs)
  | [], _ => rfl
  | v :: vs, k => by
    have ih := mm_args_eq vs (k + mm_cat v)
    have hc := mm_val_cat v
    rcases v with x | x | r
    · simpa [lv_args, mm_st, mm_args, mm_val, mm_cat, Value.category, mm_lv] using ih
    · simpa [lv_args, mm_st, mm_args, mm_val, mm_cat, Value.category, mm_lv] using ih
    · cases r <;> simpa [lv_args, mm_st, mm_args, mm_val, mm_cat, Value.category, mm_lv, va_rf] using ih
theorem mm_sl_len : ∀ (vs : List mm_V), (lg_sl (mm_st vs)).length = (vs.map mm_cat).sum
  | [] => rfl
  | v :: vs => by
    have ih := mm_sl_len vs
    simp only [lg_sl, mm_st, List.map_cons, List.flatMap_cons, List.length_append, List.sum_cons] at ih ⊢
    rw [ih, mm_val_cat]
    rcases v with x | x | r <;> simp [mm_cat]
theorem mm_st_cat (vs : List mm_V) : ((mm_st vs).map fun v => v.category).sum = (vs.map mm_cat).sum := by
  simp only [mm_st, List.map_map]
  congr 1
  apply List.map_congr_left
  intro v _
  exact mm_val_cat v
-- where a walk stands: program, launch, environment, room, start, method, arguments, below, method, code; numbering, array classes, the memory at the start, how many locals, the end that is wanted
abbrev mm_c : Type := Program × Launch × Env × Room × State × MethodId × (Array Value) × (List Frame) × Method × Code × va_G × (Nat → ClassId) × mm_M × Nat × (State → Prop)
def mm_X (g : mm_c) (cells slots : Nat) (M : mm_M) (pc : Nat) (lv : List (Nat × mm_V)) (st : List mm_V) : Prop := match g with
  | (p, l, e, R, s, m, args, below, meth, c, G, cy, M0, nL, Q) => ∀ (H : Heap) (locs : List Loc) (ls : Array Slot), mm_h G cy M H → mm_x M0 M → mm_s (mm_D M0) M s H → va_S (mm_D M0) s.heap H locs → lv_has ls nL (mm_lv lv) → W p l e R s m args below meth c H locs cells slots Q (F0 m pc ls (mm_st st))
def mm_gl (g : mm_c) : Launch := match g with | (p, l, e, R, s, m, args, below, meth, c, G, cy, M0, nL, Q) => l
def mm_gG (g : mm_c) : va_G := match g with | (p, l, e, R, s, m, args, below, meth, c, G, cy, M0, nL, Q) => G
def mm_gcy (g : mm_c) : Nat → ClassId := match g with | (p, l, e, R, s, m, args, below, meth, c, G, cy, M0, nL, Q) => cy
/-- what is known where a method's walk begins -/
def mm_ok (g : mm_c) (cc : ByteArray) (own : String) (ret : Option FieldType) (nm : String) (nLoc fr lo mc ms : Nat) : Prop := match g with
  | (p, l, e, R, s, m, args, below, meth, c, G, cy, M0, nL, Q) => p.tables.exec = Jvm.exec ∧ c.code = cc ∧ c.maxLocals = nLoc ∧ nL = nLoc ∧ s.vm.findClass own = some m.cls ∧ (∀ w ∈ mm_gt, w.before args s = true) ∧ mm_v G cy s ∧ meth.locks = false ∧ meth.sig.returnType = ret ∧ meth.name = nm ∧ mm_n M0 = s.heap.size ∧ R = { frames := fr, cells := mc, slots := ms, locals := lo }
/-- the JDK's empty array is known, and no other cell is of its kind -/
def mm_p (M : mm_M) : Prop := M.1 (mm_z M) = some (18, 0) ∧ ∀ a n, M.1 a = some (18, n) → a = mm_z M ∧ n = 0
def mm_Q (G : va_G) (cy : Nat → ClassId) (M0 : mm_M) (v : Option mm_V) (M1 : mm_M) : Array Value → State → Outcome → State → Prop := fun _ st oc t =>
  (oc = .returned (v.map mm_val) ∧ mm_x M0 M1 ∧ mm_h G cy M1 t.heap ∧ mm_p M1) ∧ va_F (mm_D M0) st t
def mm_q (g : mm_c) (mc ms : Nat) (v : Option mm_V) (M1 : mm_M) : Prop := match g with
  | (p, l, e, R, s, m, args, below, meth, c, G, cy, M0, nL, Q) => Q = MQ below (mm_Q G cy M0 v M1) args s mc ms (mm_D M0)
def mm_pre (G : va_G) (cy : Nat → ClassId) (M : mm_M) (U : State) : Prop := mm_h G cy M U.heap ∧ mm_v G cy U ∧ mm_s (mm_D M) M U U.heap
/-- a method's contract: from the memory M and the arguments av it returns v, and the memory is M1 -/
def mm_Met (l : Launch) (y : MethodName) (b : ByteArray) (maxL : Nat) (ret : Option FieldType) (fr lo mc ms : Nat) (G : va_G) (cy : Nat → ClassId) (av : List mm_V) (M : mm_M) (v : Option mm_V) (M1 : mm_M) : Prop :=
  Met l y (.code y b maxL ret :: mm_gt) { frames := fr, cells := mc, slots := ms, locals := lo } (va_Pc (mm_st av) (mm_pre G cy M)) (mm_Q G cy M v M1) mc ms (mm_D M)
theorem mm_enter {l : Launch} {y : MethodName} {b : ByteArray} {maxL : Nat} {ret : Option FieldType} {fr lo mc ms : Nat} {G : va_G} {cy : Nat → ClassId} {av : List mm_V} {M : mm_M} {v : Option mm_V} {M1 : mm_M}
    (hy : plainName y.cls = true) (hl : (av.map mm_cat).sum ≤ maxL)
    (body : ∀ (p : Program) (e : Env) (R : Room) (s : State) (m : MethodId) (args : Array Value) (below : List Frame) (meth : Method) (c : Code) (Q : State → Prop), mm_ok (p, l, e, R, s, m, args, below, meth, c, G, cy, M, maxL, Q) b y.cls ret y.name maxL fr lo mc ms → mm_q (p, l, e, R, s, m, args, below, meth, c, G, cy, M, maxL, Q) mc ms v M1 → mm_X (p, l, e, R, s, m, args, below, meth, c, G, cy, M, maxL, Q) 0 0 M 0 (mm_args 0 av) []) :
    mm_Met l y b maxL ret fr lo mc ms G cy av M v M1 := by
  refine Met.ofW (cc := b) (maxL := maxL) (ret := ret) hy rfl ?_
  intro p e s m args below meth c s₁ B hml hv
  obtain ⟨rfl, hh, hvv, hs⟩ := hv
  have hts := atoms_spec (ws := .code y b maxL ret :: mm_gt) B.pre
  rw [lg_entry_eq]
  have h := body p e { frames := fr, cells := mc, slots := ms, locals := lo } s m (mm_st av).toArray below meth c (MQ below (mm_Q G cy M v M1) (mm_st av).toArray s mc ms (mm_D M))
    ⟨B.exec, B.bytes, hml, rfl, findClass_of_methodNamed B.named, fun w hw => hts w (List.mem_cons_of_mem _ hw), hvv, B.notSynchronized, B.returns, (name_of_methodNamed B.named B.method).1, hh.1.symm, rfl⟩ rfl
  refine h s.heap [] _ hh (mm_x_rf M) hs va_S.rf ?_
  have h2 := lv_entry (mm_st av) (n := maxL) (by rw [mm_sl_len]; exact hl)
  rw [mm_args_eq] at h2
  exact h2
-- moved along the machine's notes
theorem mm_nk_warm {w : Cond} {s U : State} (hk : mm_nk w = true) (hW : s.WarmedH U.vm) (h : va_Nw w s) : va_Nw w U := by
  cases w <;> first | exact va_Nw.warmF hW h | exact va_Nw.warmM hW h | exact va_Nw.warmC hW h | exact va_Nw.warmD hW h | (simp [mm_nk] at hk)
theorem mm_nk_tab {w : Cond} (hk : mm_nk w = true) : w.onTables = true := by
  cases w <;> first | rfl | (simp [mm_nk] at hk)
theorem mm_v_moved {G : va_G} {cy : Nat → ClassId} {s U : State} (hW : s.WarmedH U.vm) (h : mm_v G cy s) : mm_v G cy U :=
  ⟨va_K.moved hW.alike h.1, fun w hw => mm_nk_warm (List.mem_filter.mp hw).2 hW (h.2.1 w hw), va_AO.moved hW.alike h.2.2.1, va_AO.moved hW.alike h.2.2.2.1, va_AO.moved hW.alike h.2.2.2.2.1, va_Mi.moved hW.alike h.2.2.2.2.2⟩
theorem mm_v_same {G : va_G} {cy : Nat → ClassId} {s U : State} (hW : s.vm = U.vm) (h : mm_v G cy s) : mm_v G cy U := by
  have hA : s.vm.Alike U.vm := by rw [← hW]; exact Vm.Alike.refl _
  exact ⟨va_K.moved hA h.1, fun w hw => va_Nw.same (mm_nk_tab (List.mem_filter.mp hw).2) hW (h.2.1 w hw), va_AO.moved hA h.2.2.1, va_AO.moved hA h.2.2.2.1, va_AO.moved hA h.2.2.2.2.1, va_Mi.moved hA h.2.2.2.2.2⟩
theorem mm_s_moved {A : Nat → Prop} {M : mm_M} {s U : State} {H : Heap} (hW : s.vm.Alike U.vm) (h : mm_s A M s H) : mm_s A M U H :=
  ⟨h.1, h.2.1, va_T.moved hW h.2.2.1, va_Z.moved hW h.2.2.2⟩
theorem mm_s_narrow {A B : Nat → Prop} {M : mm_M} {s : State} {H : Heap} (h : mm_s A M s H) (hAB : ∀ q, B q → A q) : mm_s B M s H :=
  ⟨h.1, h.2.1, va_T.narrow h.2.2.1 hAB, va_Z.narrow h.2.2.2 hAB⟩
theorem mm_s_kept {A : Nat → Prop} {M : mm_M} {s : State} {H H1 : Heap} (h : mm_s A M s H) (hq : ∀ a : Nat, a < H.size → ¬ A a → H1[a]? = H[a]?) : mm_s A M s H1 :=
  ⟨h.1, h.2.1, va_T.kept h.2.2.1 hq, va_Z.kept h.2.2.2 hq⟩
theorem mm_pre_blind (G : va_G) (cy : Nat → ClassId) (M : mm_M) (av : List Value) : FrameBlind (va_Pc av (mm_pre G cy M)) := by
  intro a U g mk q
  obtain ⟨h1, h2, h3, h4⟩ := q
  exact ⟨h1, h2, mm_v_same (s := U) (U := U.calling g mk a) rfl h3, mm_s_moved (U := U.calling g mk a) (Vm.Alike.refl U.vm) h4⟩
theorem mm_h_lt {G : va_G} {cy : Nat → ClassId} {M : mm_M} {H : Heap} (h : mm_h G cy M H) {a k n : Nat} (ha : M.1 a = some (k, n)) (hk : k < 18) : a < mm_n M := by
  obtain ⟨hz, L, hL, hP, -⟩ := h
  obtain ⟨i, hi⟩ := va_pl_get (X := []) (f := mm_ce cy M) ((hL a).mpr ⟨k, n, ha, hk⟩)
  have := (hP i _ hi).lt
  omega
theorem mm_s_lt {A : Nat → Prop} {M : mm_M} {s : State} {H : Heap} (h : mm_s A M s H) : mm_z M < H.size := by
  obtain ⟨-, -, ⟨cell, hc, -⟩, -⟩ := h
  exact (Array.getElem?_eq_some_iff.mp hc).1
/-- what stands of the memory in the kit's words, at one cell -/
theorem mm_h_at {G : va_G} {cy : Nat → ClassId} {M : mm_M} {H : Heap} (h : mm_h G cy M H) {a k n : Nat} (ha : M.1 a = some (k, n)) (hk : k < 18) : va_P G vwCl [(a, mm_ce cy M a)] H := by
  obtain ⟨hz, L, hL, hP, -⟩ := h
  obtain ⟨i, hi⟩ := va_pl_get (X := []) (f := mm_ce cy M) ((hL a).mpr ⟨k, n, ha, hk⟩)
  intro j q hj
  match j, hj with
  | 0, hj => cases hj; exact hP i _ hi
  | j + 1, hj => simp at hj
/-- one cell written -/
theorem mm_h_put {G : va_G} {cy : Nat → ClassId} {M M1 : mm_M} {H H1 : Heap} {a : Nat} {e : va_E} (h : mm_h G cy M H) (he : mm_ce cy M1 a = e) (hk : M1.1 = M.1) (hn : mm_n M1 = mm_n M) (hc : ∀ b, b ≠ a → mm_ce cy M1 b = mm_ce cy M b)
    (hz : H1.size = H.size) (L : List Nat) (hL : ∀ a, a ∈ L ↔ ∃ k n, M.1 a = some (k, n) ∧ k < 18) (i : Nat) (hi : ([] ++ va_pl L (mm_ce cy M))[i]? = some (a, mm_ce cy M a)) (haL : a ∈ L) (hD0 : va_D (mm_D M) ([] ++ va_pl L (mm_ce cy M)))
    (hP : va_P G vwCl (([] ++ va_pl L (mm_ce cy M)).set i (a, e)) H1) (hD : va_D (mm_D M) (([] ++ va_pl L (mm_ce cy M)).set i (a, e))) : mm_h G cy M1 H1 := by
  rw [va_pl_set hD0 haL hi] at hP hD
  have e1 : va_pl L (va_up (mm_ce cy M) a e) = va_pl L (mm_ce cy M1) := va_pl_congr (mm_ce_up he hc)
  rw [e1] at hP hD
  have hDD : mm_D M1 = mm_D M := by
    funext q
    simp only [mm_D, hk, hn]
  exact ⟨by rw [hz, h.1, hn], L, by rw [hk]; exact hL, hP, by rw [hDD]; exact hD⟩
