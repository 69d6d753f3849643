section
variable {g : mm_c} {cc : ByteArray} {own nm : String} {ret : Option FieldType} {nL fr lo mc ms cells slots : Nat} {M : mm_M} {pc : Nat} {lv : List (Nat × mm_V)} {st : List mm_V}
theorem xr_lat {ls : Array Slot} (h : lv_has ls nL (mm_lv lv)) {k i : Nat} {v : mm_V} (hk : lv[k]? = some (i, v)) : ls[i]? = some (.val (mm_val v)) := lv_at h k (by rw [List.getElem?_map, hk]; rfl)
theorem xr_eq {pc2 : Nat} {lv2 : List (Nat × mm_V)} {st2 : List mm_V} (h1 : pc = pc2) (h2 : lv = lv2) (h3 : st = st2) (k : mm_X g cells slots M pc2 lv2 st2) : mm_X g cells slots M pc lv st := by
  subst h1; subst h2; subst h3; exact k
theorem xr_sub {lv2 : List (Nat × mm_V)} (ks : List Nat) (h : ks.filterMap (fun k => lv[k]?) = lv2) (k : mm_X g cells slots M pc lv2 st) : mm_X g cells slots M pc lv st := by
  obtain ⟨p, l, e, R, s, m, args, below, meth, c, G, cy, M0, nL, Q⟩ := g
  intro H locs ls h1 h2 h3 h4 hl
  refine k H locs ls h1 h2 h3 h4 ⟨hl.1, hl.2.1, fun q hq => ?_⟩
  obtain ⟨q0, hq0, rfl⟩ := List.mem_map.mp hq
  rw [← h] at hq0
  obtain ⟨i, -, hi⟩ := List.mem_filterMap.mp hq0
  exact hl.2.2 _ (List.mem_map.mpr ⟨q0, List.mem_of_getElem? hi, rfl⟩)
theorem xr_widen {k n : Nat} (h1 : cells ≤ k) (h2 : slots ≤ n) (kk : mm_X g k n M pc lv st) : mm_X g cells slots M pc lv st := by
  obtain ⟨p, l, e, R, s, m, args, below, meth, c, G, cy, M0, nL, Q⟩ := g
  intro H locs ls a1 a2 a3 a4 hl
  exact W.widen h1 h2 (kk H locs ls a1 a2 a3 a4 hl)
-- constants, locals
theorem xr_iconst (q : Nat) (C : mm_ok g cc own ret nm nL fr lo mc ms) {n : Int} {v : Int32} (d : decode cc pc = .ok (.iconst n, 1)) (hv : Int32.ofInt n = v) (hq : pc + 1 = q) (k : mm_X g cells slots M q lv (mm_i v :: st)) : mm_X g cells slots M pc lv st := by
  subst hq
  obtain ⟨p, l, e, R, s, m, args, below, meth, c, G, cy, M0, nL, Q⟩ := g
  obtain ⟨hx, hb, -⟩ := C
  intro H locs ls a1 a2 a3 a4 hl
  exact lv_iconst hx hb d hv (k H locs ls a1 a2 a3 a4 hl)
theorem xr_bipush (q : Nat) (C : mm_ok g cc own ret nm nL fr lo mc ms) {n : Int} {v : Int32} (d : decode cc pc = .ok (.bipush n, 2)) (hv : (Int8.ofInt n).toInt32 = v) (hq : pc + 2 = q) (k : mm_X g cells slots M q lv (mm_i v :: st)) : mm_X g cells slots M pc lv st := by
  subst hq
  obtain ⟨p, l, e, R, s, m, args, below, meth, c, G, cy, M0, nL, Q⟩ := g
  obtain ⟨hx, hb, -⟩ := C
  intro H locs ls a1 a2 a3 a4 hl
  exact lv_bipush hx hb d hv (k H locs ls a1 a2 a3 a4 hl)
theorem xr_sipush (q : Nat) (C : mm_ok g cc own ret nm nL fr lo mc ms) {n : Int} {v : Int32} (d : decode cc pc = .ok (.sipush n, 3)) (hv : (Int16.ofInt n).toInt32 = v) (hq : pc + 3 = q) (k : mm_X g cells slots M q lv (mm_i v :: st)) : mm_X g cells slots M pc lv st := by
  subst hq
  obtain ⟨p, l, e, R, s, m, args, below, meth, c, G, cy, M0, nL, Q⟩ := g
  obtain ⟨hx, hb, -⟩ := C
  intro H locs ls a1 a2 a3 a4 hl
  exact lv_sipush hx hb d hv (k H locs ls a1 a2 a3 a4 hl)
theorem xr_lconst (q : Nat) (C : mm_ok g cc own ret nm nL fr lo mc ms) {n : Fin 2} {v : Int64} (d : decode cc pc = .ok (.lconst n, 1)) (hv : Int64.ofNat (n : Nat) = v) (hq : pc + 1 = q) (k : mm_X g cells slots M q lv (mm_j v :: st)) : mm_X g cells slots M pc lv st := by
  subst hq
  obtain ⟨p, l, e, R, s, m, args, below, meth, c, G, cy, M0, nL, Q⟩ := g
  obtain ⟨hx, hb, -⟩ := C
  intro H locs ls a1 a2 a3 a4 hl
  exact lv_lconst hx hb d hv (k H locs ls a1 a2 a3 a4 hl)
theorem xr_ldc (q : Nat) (C : mm_ok g cc own ret nm nL fr lo mc ms) {index : Nat} {v : Int32} (hw : Cond.constant own index v ∈ mm_gt) (d : decode cc pc = .ok (.ldc index, 2)) (hq : pc + 2 = q) (k : mm_X g cells slots M q lv (mm_i v :: st)) : mm_X g cells slots M pc lv st := by
  subst hq
  obtain ⟨p, l, e, R, s, m, args, below, meth, c, G, cy, M0, nL, Q⟩ := g
  obtain ⟨hx, hb, -, -, hown, hts, -⟩ := C
  intro H locs ls a1 a2 a3 a4 hl
  exact lv_ldc hx hb hown (hts _ hw) d (k H locs ls a1 a2 a3 a4 hl)
theorem xr_ldc2 (q : Nat) (C : mm_ok g cc own ret nm nL fr lo mc ms) {index : Nat} {v : Int64} (hw : Cond.constantLong own index v ∈ mm_gt) (d : decode cc pc = .ok (.ldc2_w index, 3)) (hq : pc + 3 = q) (k : mm_X g cells slots M q lv (mm_j v :: st)) : mm_X g cells slots M pc lv st := by
  subst hq
  obtain ⟨p, l, e, R, s, m, args, below, meth, c, G, cy, M0, nL, Q⟩ := g
  obtain ⟨hx, hb, -, -, hown, hts, -⟩ := C
  intro H locs ls a1 a2 a3 a4 hl
  exact lv_ldc2 hx hb hown (hts _ hw) d (k H locs ls a1 a2 a3 a4 hl)
theorem xr_null (q : Nat) (C : mm_ok g cc own ret nm nL fr lo mc ms) (d : decode cc pc = .ok (.aconst_null, 1)) (hq : pc + 1 = q) (k : mm_X g cells slots M q lv (mm_r none :: st)) : mm_X g cells slots M pc lv st := by
  subst hq
  obtain ⟨p, l, e, R, s, m, args, below, meth, c, G, cy, M0, nL, Q⟩ := g
  obtain ⟨hx, hb, -⟩ := C
  intro H locs ls a1 a2 a3 a4 hl
  exact lv_null hx hb d (k H locs ls a1 a2 a3 a4 hl)
theorem xr_iload_n (q at_ : Nat) (C : mm_ok g cc own ret nm nL fr lo mc ms) {kk : Fin 4} {i : Nat} {x : Int32} (d : decode cc pc = .ok (.iload_n kk, 1)) (hi : (kk : Nat) = i) (hl0 : lv[at_]? = some (i, mm_i x)) (hq : pc + 1 = q) (k : mm_X g cells slots M q lv (mm_i x :: st)) : mm_X g cells slots M pc lv st := by
  subst hq
  obtain ⟨p, l, e, R, s, m, args, below, meth, c, G, cy, M0, nL, Q⟩ := g
  obtain ⟨hx, hb, -⟩ := C
  intro H locs ls a1 a2 a3 a4 hl
  exact lv_iload_n hx hb d hi (xr_lat hl hl0) (k H locs ls a1 a2 a3 a4 hl)
theorem xr_iload (q at_ : Nat) (C : mm_ok g cc own ret nm nL fr lo mc ms) {i : Nat} {x : Int32} (d : decode cc pc = .ok (.iload i, 2)) (hl0 : lv[at_]? = some (i, mm_i x)) (hq : pc + 2 = q) (k : mm_X g cells slots M q lv (mm_i x :: st)) : mm_X g cells slots M pc lv st := by
  subst hq
  obtain ⟨p, l, e, R, s, m, args, below, meth, c, G, cy, M0, nL, Q⟩ := g
  obtain ⟨hx, hb, -⟩ := C
  intro H locs ls a1 a2 a3 a4 hl
  exact lv_iload hx hb d (xr_lat hl hl0) (k H locs ls a1 a2 a3 a4 hl)
theorem xr_lload_n (q at_ : Nat) (C : mm_ok g cc own ret nm nL fr lo mc ms) {kk : Fin 4} {i : Nat} {x : Int64} (d : decode cc pc = .ok (.lload_n kk, 1)) (hi : (kk : Nat) = i) (hl0 : lv[at_]? = some (i, mm_j x)) (hq : pc + 1 = q) (k : mm_X g cells slots M q lv (mm_j x :: st)) : mm_X g cells slots M pc lv st := by
  subst hq
  obtain ⟨p, l, e, R, s, m, args, below, meth, c, G, cy, M0, nL, Q⟩ := g
  obtain ⟨hx, hb, -⟩ := C
  intro H locs ls a1 a2 a3 a4 hl
  exact lv_lload_n hx hb d hi (xr_lat hl hl0) (k H locs ls a1 a2 a3 a4 hl)
theorem xr_lload (q at_ : Nat) (C : mm_ok g cc own ret nm nL fr lo mc ms) {i : Nat} {x : Int64} (d : decode cc pc = .ok (.lload i, 2)) (hl0 : lv[at_]? = some (i, mm_j x)) (hq : pc + 2 = q) (k : mm_X g cells slots M q lv (mm_j x :: st)) : mm_X g cells slots M pc lv st := by
  subst hq
  obtain ⟨p, l, e, R, s, m, args, below, meth, c, G, cy, M0, nL, Q⟩ := g
  obtain ⟨hx, hb, -⟩ := C
  intro H locs ls a1 a2 a3 a4 hl
  exact lv_lload hx hb d (xr_lat hl hl0) (k H locs ls a1 a2 a3 a4 hl)
theorem xr_aload_n (q at_ : Nat) (C : mm_ok g cc own ret nm nL fr lo mc ms) {kk : Fin 4} {i : Nat} {x : Option Nat} (d : decode cc pc = .ok (.aload_n kk, 1)) (hi : (kk : Nat) = i) (hl0 : lv[at_]? = some (i, mm_r x)) (hq : pc + 1 = q) (k : mm_X g cells slots M q lv (mm_r x :: st)) : mm_X g cells slots M pc lv st := by
  subst hq
  obtain ⟨p, l, e, R, s, m, args, below, meth, c, G, cy, M0, nL, Q⟩ := g
  obtain ⟨hx, hb, -⟩ := C
  intro H locs ls a1 a2 a3 a4 hl
  have h5 := xr_lat hl hl0
  have h6 := k H locs ls a1 a2 a3 a4 hl
  cases x with
  | none => exact lv_aload_nN hx hb d hi h5 h6
  | some y => exact lv_aload_n hx hb d hi h5 h6
theorem xr_aload (q at_ : Nat) (C : mm_ok g cc own ret nm nL fr lo mc ms) {i : Nat} {x : Option Nat} (d : decode cc pc = .ok (.aload i, 2)) (hl0 : lv[at_]? = some (i, mm_r x)) (hq : pc + 2 = q) (k : mm_X g cells slots M q lv (mm_r x :: st)) : mm_X g cells slots M pc lv st := by
  subst hq
  obtain ⟨p, l, e, R, s, m, args, below, meth, c, G, cy, M0, nL, Q⟩ := g
  obtain ⟨hx, hb, -⟩ := C
  intro H locs ls a1 a2 a3 a4 hl
  have h5 := xr_lat hl hl0
  have h6 := k H locs ls a1 a2 a3 a4 hl
  cases x with
  | none => exact lv_aloadN hx hb d h5 h6
  | some y => exact lv_aload hx hb d h5 h6
/-- what a store of one slot leaves of the list -/
def mm_f1 (i : Nat) (lv : List (Nat × mm_V)) : List (Nat × mm_V) := lv.filter (fun q => !(q.1 == i) && !(q.1 + 1 == i && mm_cat q.2 == 2))
def mm_f2 (i : Nat) (lv : List (Nat × mm_V)) : List (Nat × mm_V) := lv.filter (fun q => !(q.1 == i) && (!(q.1 == i + 1) && !(q.1 + 1 == i && mm_cat q.2 == 2)))
theorem mm_f1_eq (i : Nat) (lv : List (Nat × mm_V)) : (mm_lv lv).filter (fun q => !(q.1 == i) && !(q.1 + 1 == i && q.2.category == 2)) = mm_lv (mm_f1 i lv) := by
  simp only [mm_lv, mm_f1, List.filter_map]
  congr 1
  apply List.filter_congr
  intro q _
  simp only [Function.comp, mm_val_cat]
theorem mm_f2_eq (i : Nat) (lv : List (Nat × mm_V)) : (mm_lv lv).filter (fun q => !(q.1 == i) && (!(q.1 == i + 1) && !(q.1 + 1 == i && q.2.category == 2))) = mm_lv (mm_f2 i lv) := by
  simp only [mm_lv, mm_f2, List.filter_map]
  congr 1
  apply List.filter_congr
  intro q _
  simp only [Function.comp, mm_val_cat]
theorem xr_istore_n (q : Nat) (C : mm_ok g cc own ret nm nL fr lo mc ms) {kk : Fin 4} {i : Nat} {x : Int32} (d : decode cc pc = .ok (.istore_n kk, 1)) (hi : (kk : Nat) = i) (hn : i < nL) (hq : pc + 1 = q) (lv2 : List (Nat × mm_V)) (h2 : (i, mm_i x) :: mm_f1 i lv = lv2) (k : mm_X g cells slots M q lv2 st) : mm_X g cells slots M pc lv (mm_i x :: st) := by
  subst hq
  subst h2
  obtain ⟨p, l, e, R, s, m, args, below, meth, c, G, cy, M0, nL2, Q⟩ := g
  obtain ⟨hx, hb, -, rfl, -⟩ := C
  intro H locs ls a1 a2 a3 a4 hl
  exact lv_istore_n (lv' := mm_lv ((i, mm_i x) :: mm_f1 i lv)) hx hb d hi hl hn (by rw [mm_f1_eq]; rfl) (fun ls2 h5 => k H locs ls2 a1 a2 a3 a4 h5)
theorem xr_istore (q : Nat) (C : mm_ok g cc own ret nm nL fr lo mc ms) {i : Nat} {x : Int32} (d : decode cc pc = .ok (.istore i, 2)) (hn : i < nL) (hq : pc + 2 = q) (lv2 : List (Nat × mm_V)) (h2 : (i, mm_i x) :: mm_f1 i lv = lv2) (k : mm_X g cells slots M q lv2 st) : mm_X g cells slots M pc lv (mm_i x :: st) := by
  subst hq
  subst h2
  obtain ⟨p, l, e, R, s, m, args, below, meth, c, G, cy, M0, nL2, Q⟩ := g
  obtain ⟨hx, hb, -, rfl, -⟩ := C
  intro H locs ls a1 a2 a3 a4 hl
  exact lv_istore (lv' := mm_lv ((i, mm_i x) :: mm_f1 i lv)) hx hb d hl hn (by rw [mm_f1_eq]; rfl) (fun ls2 h5 => k H locs ls2 a1 a2 a3 a4 h5)
theorem xr_lstore_n (q : Nat) (C : mm_ok g cc own ret nm nL fr lo mc ms) {kk : Fin 4} {i : Nat} {x : Int64} (d : decode cc pc = .ok (.lstore_n kk, 1)) (hi : (kk : Nat) = i) (hn : i + 1 < nL) (hq : pc + 1 = q) (lv2 : List (Nat × mm_V)) (h2 : (i, mm_j x) :: mm_f2 i lv = lv2) (k : mm_X g cells slots M q lv2 st) : mm_X g cells slots M pc lv (mm_j x :: st) := by
  subst hq
  subst h2
  obtain ⟨p, l, e, R, s, m, args, below, meth, c, G, cy, M0, nL2, Q⟩ := g
  obtain ⟨hx, hb, -, rfl, -⟩ := C
  intro H locs ls a1 a2 a3 a4 hl
  exact lv_lstore_n (lv' := mm_lv ((i, mm_j x) :: mm_f2 i lv)) hx hb d hi hl hn (by rw [mm_f2_eq]; rfl) (fun ls2 h5 => k H locs ls2 a1 a2 a3 a4 h5)
theorem xr_lstore (q : Nat) (C : mm_ok g cc own ret nm nL fr lo mc ms) {i : Nat} {x : Int64} (d : decode cc pc = .ok (.lstore i, 2)) (hn : i + 1 < nL) (hq : pc + 2 = q) (lv2 : List (Nat × mm_V)) (h2 : (i, mm_j x) :: mm_f2 i lv = lv2) (k : mm_X g cells slots M q lv2 st) : mm_X g cells slots M pc lv (mm_j x :: st) := by
  subst hq
  subst h2
  obtain ⟨p, l, e, R, s, m, args, below, meth, c, G, cy, M0, nL2, Q⟩ := g
  obtain ⟨hx, hb, -, rfl, -⟩ := C
  intro H locs ls a1 a2 a3 a4 hl
  exact lv_lstore (lv' := mm_lv ((i, mm_j x) :: mm_f2 i lv)) hx hb d hl hn (by rw [mm_f2_eq]; rfl) (fun ls2 h5 => k H locs ls2 a1 a2 a3 a4 h5)
theorem xr_astore_n (q : Nat) (C : mm_ok g cc own ret nm nL fr lo mc ms) {kk : Fin 4} {i : Nat} {x : Option Nat} (d : decode cc pc = .ok (.astore_n kk, 1)) (hi : (kk : Nat) = i) (hn : i < nL) (hq : pc + 1 = q) (lv2 : List (Nat × mm_V)) (h2 : (i, mm_r x) :: mm_f1 i lv = lv2) (k : mm_X g cells slots M q lv2 st) : mm_X g cells slots M pc lv (mm_r x :: st) := by
  subst hq
  subst h2
  obtain ⟨p, l, e, R, s, m, args, below, meth, c, G, cy, M0, nL2, Q⟩ := g
  obtain ⟨hx, hb, -, rfl, -⟩ := C
  intro H locs ls a1 a2 a3 a4 hl
  cases x with
  | none => exact lv_astore_nN (lv' := mm_lv ((i, mm_r none) :: mm_f1 i lv)) hx hb d hi hl hn (by rw [mm_f1_eq]; rfl) (fun ls2 h5 => k H locs ls2 a1 a2 a3 a4 h5)
  | some y => exact lv_astore_n (lv' := mm_lv ((i, mm_r (some y)) :: mm_f1 i lv)) hx hb d hi hl hn (by rw [mm_f1_eq]; rfl) (fun ls2 h5 => k H locs ls2 a1 a2 a3 a4 h5)
theorem xr_astore (q : Nat) (C : mm_ok g cc own ret nm nL fr lo mc ms) {i : Nat} {x : Option Nat} (d : decode cc pc = .ok (.astore i, 2)) (hn : i < nL) (hq : pc + 2 = q) (lv2 : List (Nat × mm_V)) (h2 : (i, mm_r x) :: mm_f1 i lv = lv2) (k : mm_X g cells slots M q lv2 st) : mm_X g cells slots M pc lv (mm_r x :: st) := by
  subst hq
  subst h2
  obtain ⟨p, l, e, R, s, m, args, below, meth, c, G, cy, M0, nL2, Q⟩ := g
  obtain ⟨hx, hb, -, rfl, -⟩ := C
  intro H locs ls a1 a2 a3 a4 hl
  cases x with
  | none => exact lv_astoreN (lv' := mm_lv ((i, mm_r none) :: mm_f1 i lv)) hx hb d hl hn (by rw [mm_f1_eq]; rfl) (fun ls2 h5 => k H locs ls2 a1 a2 a3 a4 h5)
  | some y => exact lv_astore (lv' := mm_lv ((i, mm_r (some y)) :: mm_f1 i lv)) hx hb d hl hn (by rw [mm_f1_eq]; rfl) (fun ls2 h5 => k H locs ls2 a1 a2 a3 a4 h5)
theorem xr_iinc (q at_ : Nat) (C : mm_ok g cc own ret nm nL fr lo mc ms) {i : Nat} {n : Int} {x v : Int32} (d : decode cc pc = .ok (.iinc i n, 3)) (hl0 : lv[at_]? = some (i, mm_i x)) (hn : i < nL) (hv : Int32.ofInt n = v) (hq : pc + 3 = q) (lv2 : List (Nat × mm_V)) (h2 : (i, mm_i (x + v)) :: mm_f1 i lv = lv2) (k : mm_X g cells slots M q lv2 st) : mm_X g cells slots M pc lv st := by
  subst hq
  subst h2
  subst hv
  obtain ⟨p, l, e, R, s, m, args, below, meth, c, G, cy, M0, nL2, Q⟩ := g
  obtain ⟨hx, hb, -, rfl, -⟩ := C
  intro H locs ls a1 a2 a3 a4 hl
  exact lv_iinc (lv' := mm_lv ((i, mm_i (x + Int32.ofInt n)) :: mm_f1 i lv)) hx hb d hl (k := at_) (by rw [List.getElem?_map, hl0]; rfl) rfl hn (by rw [mm_f1_eq]; rfl) (fun ls2 h5 => k H locs ls2 a1 a2 a3 a4 h5)
end
