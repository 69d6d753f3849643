section
variable {g : mm_c} {cc : ByteArray} {own nm : String} {ret : Option FieldType} {nL fr lo mc ms cells slots : Nat} {M : mm_M} {pc : Nat} {lv : List (Nat × mm_V)} {st : List mm_V}
theorem xr_iadd (q : Nat) (C : mm_ok g cc own ret nm nL fr lo mc ms) {x y : Int32} (d : decode cc pc = .ok (.iadd, 1)) (hq : pc + 1 = q) (k : mm_X g cells slots M q lv (mm_i (x + y) :: st)) : mm_X g cells slots M pc lv (mm_i y :: mm_i x :: st) := by
  subst hq
  obtain ⟨p, l, e, R, s, m, args, below, meth, c, G, cy, M0, nL, Q⟩ := g
  obtain ⟨hx, hb, -⟩ := C
  intro H locs ls a1 a2 a3 a4 hl
  exact lv_iadd hx hb d (k H locs ls a1 a2 a3 a4 hl)
theorem xr_isub (q : Nat) (C : mm_ok g cc own ret nm nL fr lo mc ms) {x y : Int32} (d : decode cc pc = .ok (.isub, 1)) (hq : pc + 1 = q) (k : mm_X g cells slots M q lv (mm_i (x - y) :: st)) : mm_X g cells slots M pc lv (mm_i y :: mm_i x :: st) := by
  subst hq
  obtain ⟨p, l, e, R, s, m, args, below, meth, c, G, cy, M0, nL, Q⟩ := g
  obtain ⟨hx, hb, -⟩ := C
  intro H locs ls a1 a2 a3 a4 hl
  exact lv_isub hx hb d (k H locs ls a1 a2 a3 a4 hl)
theorem xr_imul (q : Nat) (C : mm_ok g cc own ret nm nL fr lo mc ms) {x y : Int32} (d : decode cc pc = .ok (.imul, 1)) (hq : pc + 1 = q) (k : mm_X g cells slots M q lv (mm_i (x * y) :: st)) : mm_X g cells slots M pc lv (mm_i y :: mm_i x :: st) := by
  subst hq
  obtain ⟨p, l, e, R, s, m, args, below, meth, c, G, cy, M0, nL, Q⟩ := g
  obtain ⟨hx, hb, -⟩ := C
  intro H locs ls a1 a2 a3 a4 hl
  exact lv_imul hx hb d (k H locs ls a1 a2 a3 a4 hl)
theorem xr_iand (q : Nat) (C : mm_ok g cc own ret nm nL fr lo mc ms) {x y : Int32} (d : decode cc pc = .ok (.iand, 1)) (hq : pc + 1 = q) (k : mm_X g cells slots M q lv (mm_i (x &&& y) :: st)) : mm_X g cells slots M pc lv (mm_i y :: mm_i x :: st) := by
  subst hq
  obtain ⟨p, l, e, R, s, m, args, below, meth, c, G, cy, M0, nL, Q⟩ := g
  obtain ⟨hx, hb, -⟩ := C
  intro H locs ls a1 a2 a3 a4 hl
  exact lv_iand hx hb d (k H locs ls a1 a2 a3 a4 hl)
theorem xr_ishl (q : Nat) (C : mm_ok g cc own ret nm nL fr lo mc ms) {x y : Int32} (d : decode cc pc = .ok (.ishl, 1)) (hq : pc + 1 = q) (k : mm_X g cells slots M q lv (mm_i (x <<< (y &&& 31)) :: st)) : mm_X g cells slots M pc lv (mm_i y :: mm_i x :: st) := by
  subst hq
  obtain ⟨p, l, e, R, s, m, args, below, meth, c, G, cy, M0, nL, Q⟩ := g
  obtain ⟨hx, hb, -⟩ := C
  intro H locs ls a1 a2 a3 a4 hl
  exact lv_ishl hx hb d (k H locs ls a1 a2 a3 a4 hl)
theorem xr_ishr (q : Nat) (C : mm_ok g cc own ret nm nL fr lo mc ms) {x y : Int32} (d : decode cc pc = .ok (.ishr, 1)) (hq : pc + 1 = q) (k : mm_X g cells slots M q lv (mm_i (x >>> (y &&& 31)) :: st)) : mm_X g cells slots M pc lv (mm_i y :: mm_i x :: st) := by
  subst hq
  obtain ⟨p, l, e, R, s, m, args, below, meth, c, G, cy, M0, nL, Q⟩ := g
  obtain ⟨hx, hb, -⟩ := C
  intro H locs ls a1 a2 a3 a4 hl
  exact lv_ishr hx hb d (k H locs ls a1 a2 a3 a4 hl)
theorem xr_idiv (q : Nat) (C : mm_ok g cc own ret nm nL fr lo mc ms) {x y : Int32} (d : decode cc pc = .ok (.idiv, 1)) (hne : ¬ y = 0) (hq : pc + 1 = q) (k : mm_X g cells slots M q lv (mm_i (x / y) :: st)) : mm_X g cells slots M pc lv (mm_i y :: mm_i x :: st) := by
  subst hq
  obtain ⟨p, l, e, R, s, m, args, below, meth, c, G, cy, M0, nL, Q⟩ := g
  obtain ⟨hx, hb, -⟩ := C
  intro H locs ls a1 a2 a3 a4 hl
  exact lv_idiv hx hb d hne (k H locs ls a1 a2 a3 a4 hl)
theorem xr_irem (q : Nat) (C : mm_ok g cc own ret nm nL fr lo mc ms) {x y : Int32} (d : decode cc pc = .ok (.irem, 1)) (hne : ¬ y = 0) (hq : pc + 1 = q) (k : mm_X g cells slots M q lv (mm_i (x - x / y * y) :: st)) : mm_X g cells slots M pc lv (mm_i y :: mm_i x :: st) := by
  subst hq
  obtain ⟨p, l, e, R, s, m, args, below, meth, c, G, cy, M0, nL, Q⟩ := g
  obtain ⟨hx, hb, -⟩ := C
  intro H locs ls a1 a2 a3 a4 hl
  exact lv_irem hx hb d hne (k H locs ls a1 a2 a3 a4 hl)
theorem xr_ladd (q : Nat) (C : mm_ok g cc own ret nm nL fr lo mc ms) {x y : Int64} (d : decode cc pc = .ok (.ladd, 1)) (hq : pc + 1 = q) (k : mm_X g cells slots M q lv (mm_j (x + y) :: st)) : mm_X g cells slots M pc lv (mm_j y :: mm_j x :: st) := by
  subst hq
  obtain ⟨p, l, e, R, s, m, args, below, meth, c, G, cy, M0, nL, Q⟩ := g
  obtain ⟨hx, hb, -⟩ := C
  intro H locs ls a1 a2 a3 a4 hl
  exact lv_ladd hx hb d (k H locs ls a1 a2 a3 a4 hl)
theorem xr_lsub (q : Nat) (C : mm_ok g cc own ret nm nL fr lo mc ms) {x y : Int64} (d : decode cc pc = .ok (.lsub, 1)) (hq : pc + 1 = q) (k : mm_X g cells slots M q lv (mm_j (x - y) :: st)) : mm_X g cells slots M pc lv (mm_j y :: mm_j x :: st) := by
  subst hq
  obtain ⟨p, l, e, R, s, m, args, below, meth, c, G, cy, M0, nL, Q⟩ := g
  obtain ⟨hx, hb, -⟩ := C
  intro H locs ls a1 a2 a3 a4 hl
  exact lv_lsub hx hb d (k H locs ls a1 a2 a3 a4 hl)
theorem xr_lmul (q : Nat) (C : mm_ok g cc own ret nm nL fr lo mc ms) {x y : Int64} (d : decode cc pc = .ok (.lmul, 1)) (hq : pc + 1 = q) (k : mm_X g cells slots M q lv (mm_j (x * y) :: st)) : mm_X g cells slots M pc lv (mm_j y :: mm_j x :: st) := by
  subst hq
  obtain ⟨p, l, e, R, s, m, args, below, meth, c, G, cy, M0, nL, Q⟩ := g
  obtain ⟨hx, hb, -⟩ := C
  intro H locs ls a1 a2 a3 a4 hl
  exact lv_lmul hx hb d (k H locs ls a1 a2 a3 a4 hl)
theorem xr_ldiv (q : Nat) (C : mm_ok g cc own ret nm nL fr lo mc ms) {x y : Int64} (d : decode cc pc = .ok (.ldiv, 1)) (hne : ¬ y = 0) (hq : pc + 1 = q) (k : mm_X g cells slots M q lv (mm_j (x / y) :: st)) : mm_X g cells slots M pc lv (mm_j y :: mm_j x :: st) := by
  subst hq
  obtain ⟨p, l, e, R, s, m, args, below, meth, c, G, cy, M0, nL, Q⟩ := g
  obtain ⟨hx, hb, -⟩ := C
  intro H locs ls a1 a2 a3 a4 hl
  exact lv_ldiv hx hb d hne (k H locs ls a1 a2 a3 a4 hl)
theorem xr_lrem (q : Nat) (C : mm_ok g cc own ret nm nL fr lo mc ms) {x y : Int64} (d : decode cc pc = .ok (.lrem, 1)) (hne : ¬ y = 0) (hq : pc + 1 = q) (k : mm_X g cells slots M q lv (mm_j (x - x / y * y) :: st)) : mm_X g cells slots M pc lv (mm_j y :: mm_j x :: st) := by
  subst hq
  obtain ⟨p, l, e, R, s, m, args, below, meth, c, G, cy, M0, nL, Q⟩ := g
  obtain ⟨hx, hb, -⟩ := C
  intro H locs ls a1 a2 a3 a4 hl
  exact lv_lrem hx hb d hne (k H locs ls a1 a2 a3 a4 hl)
theorem xr_i2l (q : Nat) (C : mm_ok g cc own ret nm nL fr lo mc ms) {x : Int32} (d : decode cc pc = .ok (.i2l, 1)) (hq : pc + 1 = q) (k : mm_X g cells slots M q lv (mm_j x.toInt64 :: st)) : mm_X g cells slots M pc lv (mm_i x :: st) := by
  subst hq
  obtain ⟨p, l, e, R, s, m, args, below, meth, c, G, cy, M0, nL, Q⟩ := g
  obtain ⟨hx, hb, -⟩ := C
  intro H locs ls a1 a2 a3 a4 hl
  exact lv_i2l hx hb d rfl (k H locs ls a1 a2 a3 a4 hl)
theorem xr_l2i (q : Nat) (C : mm_ok g cc own ret nm nL fr lo mc ms) {x : Int64} (d : decode cc pc = .ok (.l2i, 1)) (hq : pc + 1 = q) (k : mm_X g cells slots M q lv (mm_i x.toInt32 :: st)) : mm_X g cells slots M pc lv (mm_j x :: st) := by
  subst hq
  obtain ⟨p, l, e, R, s, m, args, below, meth, c, G, cy, M0, nL, Q⟩ := g
  obtain ⟨hx, hb, -⟩ := C
  intro H locs ls a1 a2 a3 a4 hl
  exact lv_l2i hx hb d rfl (k H locs ls a1 a2 a3 a4 hl)
theorem xr_lcmp (q : Nat) (C : mm_ok g cc own ret nm nL fr lo mc ms) {x y : Int64} (d : decode cc pc = .ok (.lcmp, 1)) (hq : pc + 1 = q) (k : mm_X g cells slots M q lv (mm_i (lg_cmp x y) :: st)) : mm_X g cells slots M pc lv (mm_j y :: mm_j x :: st) := by
  subst hq
  obtain ⟨p, l, e, R, s, m, args, below, meth, c, G, cy, M0, nL, Q⟩ := g
  obtain ⟨hx, hb, -⟩ := C
  intro H locs ls a1 a2 a3 a4 hl
  exact W.lcmp hx hb d (k H locs ls a1 a2 a3 a4 hl)
theorem xr_dup (q : Nat) (C : mm_ok g cc own ret nm nL fr lo mc ms) {v : mm_V} (d : decode cc pc = .ok (.dup, 1)) (hv : mm_cat v = 1) (hq : pc + 1 = q) (k : mm_X g cells slots M q lv (v :: v :: st)) : mm_X g cells slots M pc lv (v :: st) := by
  subst hq
  obtain ⟨p, l, e, R, s, m, args, below, meth, c, G, cy, M0, nL, Q⟩ := g
  obtain ⟨hx, hb, -⟩ := C
  intro H locs ls a1 a2 a3 a4 hl
  exact lv_dup hx hb d ((mm_val_cat v).trans hv) (k H locs ls a1 a2 a3 a4 hl)
theorem xr_pop (q : Nat) (C : mm_ok g cc own ret nm nL fr lo mc ms) {v : mm_V} (d : decode cc pc = .ok (.pop, 1)) (hv : mm_cat v = 1) (hq : pc + 1 = q) (k : mm_X g cells slots M q lv (st)) : mm_X g cells slots M pc lv (v :: st) := by
  subst hq
  obtain ⟨p, l, e, R, s, m, args, below, meth, c, G, cy, M0, nL, Q⟩ := g
  obtain ⟨hx, hb, -⟩ := C
  intro H locs ls a1 a2 a3 a4 hl
  exact lv_pop hx hb d ((mm_val_cat v).trans hv) (k H locs ls a1 a2 a3 a4 hl)
theorem xr_dup_x1 (q : Nat) (C : mm_ok g cc own ret nm nL fr lo mc ms) {v w : mm_V} (d : decode cc pc = .ok (.dup_x1, 1)) (hv : mm_cat v = 1) (hw : mm_cat w = 1) (hq : pc + 1 = q) (k : mm_X g cells slots M q lv (v :: w :: v :: st)) : mm_X g cells slots M pc lv (v :: w :: st) := by
  subst hq
  obtain ⟨p, l, e, R, s, m, args, below, meth, c, G, cy, M0, nL, Q⟩ := g
  obtain ⟨hx, hb, -⟩ := C
  intro H locs ls a1 a2 a3 a4 hl
  exact lv_dup_x1 hx hb d ((mm_val_cat v).trans hv) ((mm_val_cat w).trans hw) (k H locs ls a1 a2 a3 a4 hl)
theorem xr_dup2_11 (q : Nat) (C : mm_ok g cc own ret nm nL fr lo mc ms) {v w : mm_V} (d : decode cc pc = .ok (.dup2, 1)) (hv : mm_cat v = 1) (hw : mm_cat w = 1) (hq : pc + 1 = q) (k : mm_X g cells slots M q lv (v :: w :: v :: w :: st)) : mm_X g cells slots M pc lv (v :: w :: st) := by
  subst hq
  obtain ⟨p, l, e, R, s, m, args, below, meth, c, G, cy, M0, nL, Q⟩ := g
  obtain ⟨hx, hb, -⟩ := C
  intro H locs ls a1 a2 a3 a4 hl
  exact lv_dup2_11 hx hb d ((mm_val_cat v).trans hv) ((mm_val_cat w).trans hw) (k H locs ls a1 a2 a3 a4 hl)
theorem xr_pop2_11 (q : Nat) (C : mm_ok g cc own ret nm nL fr lo mc ms) {v w : mm_V} (d : decode cc pc = .ok (.pop2, 1)) (hv : mm_cat v = 1) (hw : mm_cat w = 1) (hq : pc + 1 = q) (k : mm_X g cells slots M q lv (st)) : mm_X g cells slots M pc lv (v :: w :: st) := by
  subst hq
  obtain ⟨p, l, e, R, s, m, args, below, meth, c, G, cy, M0, nL, Q⟩ := g
  obtain ⟨hx, hb, -⟩ := C
  intro H locs ls a1 a2 a3 a4 hl
  exact lv_pop2_11 hx hb d ((mm_val_cat v).trans hv) ((mm_val_cat w).trans hw) (k H locs ls a1 a2 a3 a4 hl)
theorem xr_dup2_2 (q : Nat) (C : mm_ok g cc own ret nm nL fr lo mc ms) {v : mm_V} (d : decode cc pc = .ok (.dup2, 1)) (hv : mm_cat v = 2) (hq : pc + 1 = q) (k : mm_X g cells slots M q lv (v :: v :: st)) : mm_X g cells slots M pc lv (v :: st) := by
  subst hq
  obtain ⟨p, l, e, R, s, m, args, below, meth, c, G, cy, M0, nL, Q⟩ := g
  obtain ⟨hx, hb, -⟩ := C
  intro H locs ls a1 a2 a3 a4 hl
  exact lv_dup2_2 hx hb d ((mm_val_cat v).trans hv) (k H locs ls a1 a2 a3 a4 hl)
theorem xr_pop2_2 (q : Nat) (C : mm_ok g cc own ret nm nL fr lo mc ms) {v : mm_V} (d : decode cc pc = .ok (.pop2, 1)) (hv : mm_cat v = 2) (hq : pc + 1 = q) (k : mm_X g cells slots M q lv (st)) : mm_X g cells slots M pc lv (v :: st) := by
  subst hq
  obtain ⟨p, l, e, R, s, m, args, below, meth, c, G, cy, M0, nL, Q⟩ := g
  obtain ⟨hx, hb, -⟩ := C
  intro H locs ls a1 a2 a3 a4 hl
  exact lv_pop2_2 hx hb d ((mm_val_cat v).trans hv) (k H locs ls a1 a2 a3 a4 hl)
theorem xr_goto (tgt : Nat) (C : mm_ok g cc own ret nm nL fr lo mc ms) {off : Int} (d : decode cc pc = .ok (.goto off, 3)) (ht : (pc : Int) + off = (tgt : Int)) (k : mm_X g cells slots M tgt lv st) : mm_X g cells slots M pc lv st := by
  obtain ⟨p, l, e, R, s, m, args, below, meth, c, G, cy, M0, nL, Q⟩ := g
  obtain ⟨hx, hb, -⟩ := C
  intro H locs ls a1 a2 a3 a4 hl
  exact lv_goto hx hb d ht (k H locs ls a1 a2 a3 a4 hl)
theorem xr_icmp_eq (tgt q : Nat) (C : mm_ok g cc own ret nm nL fr lo mc ms) {x y : Int32} {off : Int} (d : decode cc pc = .ok (.if_icmp .eq off, 3)) (ht : (pc : Int) + off = (tgt : Int)) (hq : pc + 3 = q) (kt : x = y → mm_X g cells slots M tgt lv st) (kf : ¬ x = y → mm_X g cells slots M q lv st) : mm_X g cells slots M pc lv (mm_i y :: mm_i x :: st) := by
  subst hq
  obtain ⟨p, l, e, R, s, m, args, below, meth, c, G, cy, M0, nL, Q⟩ := g
  obtain ⟨hx, hb, -⟩ := C
  intro H locs ls a1 a2 a3 a4 hl
  exact lv_icmp_eq hx hb d ht (fun h => kt h H locs ls a1 a2 a3 a4 hl) (fun h => kf h H locs ls a1 a2 a3 a4 hl)
theorem xr_if_eq (tgt q : Nat) (C : mm_ok g cc own ret nm nL fr lo mc ms) {x : Int32} {off : Int} (d : decode cc pc = .ok (.ifCond .eq off, 3)) (ht : (pc : Int) + off = (tgt : Int)) (hq : pc + 3 = q) (kt : x = 0 → mm_X g cells slots M tgt lv st) (kf : ¬ x = 0 → mm_X g cells slots M q lv st) : mm_X g cells slots M pc lv (mm_i x :: st) := by
  subst hq
  obtain ⟨p, l, e, R, s, m, args, below, meth, c, G, cy, M0, nL, Q⟩ := g
  obtain ⟨hx, hb, -⟩ := C
  intro H locs ls a1 a2 a3 a4 hl
  exact lv_if_eq hx hb d ht (fun h => kt h H locs ls a1 a2 a3 a4 hl) (fun h => kf h H locs ls a1 a2 a3 a4 hl)
theorem xr_icmp_ne (tgt q : Nat) (C : mm_ok g cc own ret nm nL fr lo mc ms) {x y : Int32} {off : Int} (d : decode cc pc = .ok (.if_icmp .ne off, 3)) (ht : (pc : Int) + off = (tgt : Int)) (hq : pc + 3 = q) (kt : ¬ x = y → mm_X g cells slots M tgt lv st) (kf : x = y → mm_X g cells slots M q lv st) : mm_X g cells slots M pc lv (mm_i y :: mm_i x :: st) := by
  subst hq
  obtain ⟨p, l, e, R, s, m, args, below, meth, c, G, cy, M0, nL, Q⟩ := g
  obtain ⟨hx, hb, -⟩ := C
  intro H locs ls a1 a2 a3 a4 hl
  exact lv_icmp_ne hx hb d ht (fun h => kt h H locs ls a1 a2 a3 a4 hl) (fun h => kf h H locs ls a1 a2 a3 a4 hl)
theorem xr_if_ne (tgt q : Nat) (C : mm_ok g cc own ret nm nL fr lo mc ms) {x : Int32} {off : Int} (d : decode cc pc = .ok (.ifCond .ne off, 3)) (ht : (pc : Int) + off = (tgt : Int)) (hq : pc + 3 = q) (kt : ¬ x = 0 → mm_X g cells slots M tgt lv st) (kf : x = 0 → mm_X g cells slots M q lv st) : mm_X g cells slots M pc lv (mm_i x :: st) := by
  subst hq
  obtain ⟨p, l, e, R, s, m, args, below, meth, c, G, cy, M0, nL, Q⟩ := g
  obtain ⟨hx, hb, -⟩ := C
  intro H locs ls a1 a2 a3 a4 hl
  exact lv_if_ne hx hb d ht (fun h => kt h H locs ls a1 a2 a3 a4 hl) (fun h => kf h H locs ls a1 a2 a3 a4 hl)
theorem xr_icmp_lt (tgt q : Nat) (C : mm_ok g cc own ret nm nL fr lo mc ms) {x y : Int32} {off : Int} (d : decode cc pc = .ok (.if_icmp .lt off, 3)) (ht : (pc : Int) + off = (tgt : Int)) (hq : pc + 3 = q) (kt : x < y → mm_X g cells slots M tgt lv st) (kf : ¬ x < y → mm_X g cells slots M q lv st) : mm_X g cells slots M pc lv (mm_i y :: mm_i x :: st) := by
  subst hq
  obtain ⟨p, l, e, R, s, m, args, below, meth, c, G, cy, M0, nL, Q⟩ := g
  obtain ⟨hx, hb, -⟩ := C
  intro H locs ls a1 a2 a3 a4 hl
  exact lv_icmp_lt hx hb d ht (fun h => kt h H locs ls a1 a2 a3 a4 hl) (fun h => kf h H locs ls a1 a2 a3 a4 hl)
theorem xr_if_lt (tgt q : Nat) (C : mm_ok g cc own ret nm nL fr lo mc ms) {x : Int32} {off : Int} (d : decode cc pc = .ok (.ifCond .lt off, 3)) (ht : (pc : Int) + off = (tgt : Int)) (hq : pc + 3 = q) (kt : x < 0 → mm_X g cells slots M tgt lv st) (kf : ¬ x < 0 → mm_X g cells slots M q lv st) : mm_X g cells slots M pc lv (mm_i x :: st) := by
  subst hq
  obtain ⟨p, l, e, R, s, m, args, below, meth, c, G, cy, M0, nL, Q⟩ := g
  obtain ⟨hx, hb, -⟩ := C
  intro H locs ls a1 a2 a3 a4 hl
  exact lv_if_lt hx hb d ht (fun h => kt h H locs ls a1 a2 a3 a4 hl) (fun h => kf h H locs ls a1 a2 a3 a4 hl)
theorem xr_icmp_ge (tgt q : Nat) (C : mm_ok g cc own ret nm nL fr lo mc ms) {x y : Int32} {off : Int} (d : decode cc pc = .ok (.if_icmp .ge off, 3)) (ht : (pc : Int) + off = (tgt : Int)) (hq : pc + 3 = q) (kt : y ≤ x → mm_X g cells slots M tgt lv st) (kf : ¬ y ≤ x → mm_X g cells slots M q lv st) : mm_X g cells slots M pc lv (mm_i y :: mm_i x :: st) := by
  subst hq
  obtain ⟨p, l, e, R, s, m, args, below, meth, c, G, cy, M0, nL, Q⟩ := g
  obtain ⟨hx, hb, -⟩ := C
  intro H locs ls a1 a2 a3 a4 hl
  exact lv_icmp_ge hx hb d ht (fun h => kt h H locs ls a1 a2 a3 a4 hl) (fun h => kf h H locs ls a1 a2 a3 a4 hl)
theorem xr_if_ge (tgt q : Nat) (C : mm_ok g cc own ret nm nL fr lo mc ms) {x : Int32} {off : Int} (d : decode cc pc = .ok (.ifCond .ge off, 3)) (ht : (pc : Int) + off = (tgt : Int)) (hq : pc + 3 = q) (kt : 0 ≤ x → mm_X g cells slots M tgt lv st) (kf : ¬ 0 ≤ x → mm_X g cells slots M q lv st) : mm_X g cells slots M pc lv (mm_i x :: st) := by
  subst hq
  obtain ⟨p, l, e, R, s, m, args, below, meth, c, G, cy, M0, nL, Q⟩ := g
  obtain ⟨hx, hb, -⟩ := C
  intro H locs ls a1 a2 a3 a4 hl
  exact lv_if_ge hx hb d ht (fun h => kt h H locs ls a1 a2 a3 a4 hl) (fun h => kf h H locs ls a1 a2 a3 a4 hl)
theorem xr_icmp_gt (tgt q : Nat) (C : mm_ok g cc own ret nm nL fr lo mc ms) {x y : Int32} {off : Int} (d : decode cc pc = .ok (.if_icmp .gt off, 3)) (ht : (pc : Int) + off = (tgt : Int)) (hq : pc + 3 = q) (kt : y < x → mm_X g cells slots M tgt lv st) (kf : ¬ y < x → mm_X g cells slots M q lv st) : mm_X g cells slots M pc lv (mm_i y :: mm_i x :: st) := by
  subst hq
  obtain ⟨p, l, e, R, s, m, args, below, meth, c, G, cy, M0, nL, Q⟩ := g
  obtain ⟨hx, hb, -⟩ := C
  intro H locs ls a1 a2 a3 a4 hl
  exact lv_icmp_gt hx hb d ht (fun h => kt h H locs ls a1 a2 a3 a4 hl) (fun h => kf h H locs ls a1 a2 a3 a4 hl)
theorem xr_if_gt (tgt q : Nat) (C : mm_ok g cc own ret nm nL fr lo mc ms) {x : Int32} {off : Int} (d : decode cc pc = .ok (.ifCond .gt off, 3)) (ht : (pc : Int) + off = (tgt : Int)) (hq : pc + 3 = q) (kt : 0 < x → mm_X g cells slots M tgt lv st) (kf : ¬ 0 < x → mm_X g cells slots M q lv st) : mm_X g cells slots M pc lv (mm_i x :: st) := by
  subst hq
  obtain ⟨p, l, e, R, s, m, args, below, meth, c, G, cy, M0, nL, Q⟩ := g
  obtain ⟨hx, hb, -⟩ := C
  intro H locs ls a1 a2 a3 a4 hl
  exact lv_if_gt hx hb d ht (fun h => kt h H locs ls a1 a2 a3 a4 hl) (fun h => kf h H locs ls a1 a2 a3 a4 hl)
theorem xr_icmp_le (tgt q : Nat) (C : mm_ok g cc own ret nm nL fr lo mc ms) {x y : Int32} {off : Int} (d : decode cc pc = .ok (.if_icmp .le off, 3)) (ht : (pc : Int) + off = (tgt : Int)) (hq : pc + 3 = q) (kt : x ≤ y → mm_X g cells slots M tgt lv st) (kf : ¬ x ≤ y → mm_X g cells slots M q lv st) : mm_X g cells slots M pc lv (mm_i y :: mm_i x :: st) := by
  subst hq
  obtain ⟨p, l, e, R, s, m, args, below, meth, c, G, cy, M0, nL, Q⟩ := g
  obtain ⟨hx, hb, -⟩ := C
  intro H locs ls a1 a2 a3 a4 hl
  exact lv_icmp_le hx hb d ht (fun h => kt h H locs ls a1 a2 a3 a4 hl) (fun h => kf h H locs ls a1 a2 a3 a4 hl)
theorem xr_if_le (tgt q : Nat) (C : mm_ok g cc own ret nm nL fr lo mc ms) {x : Int32} {off : Int} (d : decode cc pc = .ok (.ifCond .le off, 3)) (ht : (pc : Int) + off = (tgt : Int)) (hq : pc + 3 = q) (kt : x ≤ 0 → mm_X g cells slots M tgt lv st) (kf : ¬ x ≤ 0 → mm_X g cells slots M q lv st) : mm_X g cells slots M pc lv (mm_i x :: st) := by
  subst hq
  obtain ⟨p, l, e, R, s, m, args, below, meth, c, G, cy, M0, nL, Q⟩ := g
  obtain ⟨hx, hb, -⟩ := C
  intro H locs ls a1 a2 a3 a4 hl
  exact lv_if_le hx hb d ht (fun h => kt h H locs ls a1 a2 a3 a4 hl) (fun h => kf h H locs ls a1 a2 a3 a4 hl)
theorem xr_acmp_eq (tgt q : Nat) (C : mm_ok g cc own ret nm nL fr lo mc ms) {x y : Option Nat} {off : Int} (d : decode cc pc = .ok (.if_acmp .eq off, 3)) (ht : (pc : Int) + off = (tgt : Int)) (hq : pc + 3 = q) (kt : x = y → mm_X g cells slots M tgt lv st) (kf : ¬ x = y → mm_X g cells slots M q lv st) : mm_X g cells slots M pc lv (mm_r y :: mm_r x :: st) := by
  subst hq
  obtain ⟨p, l, e, R, s, m, args, below, meth, c, G, cy, M0, nL, Q⟩ := g
  obtain ⟨hx, hb, -⟩ := C
  intro H locs ls a1 a2 a3 a4 hl
  exact lv_acmp_eq hx hb d ht (fun h => kt h H locs ls a1 a2 a3 a4 hl) (fun h => kf h H locs ls a1 a2 a3 a4 hl)
theorem xr_acmp_ne (tgt q : Nat) (C : mm_ok g cc own ret nm nL fr lo mc ms) {x y : Option Nat} {off : Int} (d : decode cc pc = .ok (.if_acmp .ne off, 3)) (ht : (pc : Int) + off = (tgt : Int)) (hq : pc + 3 = q) (kt : ¬ x = y → mm_X g cells slots M tgt lv st) (kf : x = y → mm_X g cells slots M q lv st) : mm_X g cells slots M pc lv (mm_r y :: mm_r x :: st) := by
  subst hq
  obtain ⟨p, l, e, R, s, m, args, below, meth, c, G, cy, M0, nL, Q⟩ := g
  obtain ⟨hx, hb, -⟩ := C
  intro H locs ls a1 a2 a3 a4 hl
  exact lv_acmp_ne hx hb d ht (fun h => kt h H locs ls a1 a2 a3 a4 hl) (fun h => kf h H locs ls a1 a2 a3 a4 hl)
theorem xr_ifnull (tgt q : Nat) (C : mm_ok g cc own ret nm nL fr lo mc ms) {x : Option Nat} {off : Int} (d : decode cc pc = .ok (.ifnull off, 3)) (ht : (pc : Int) + off = (tgt : Int)) (hq : pc + 3 = q) (kt : x = none → mm_X g cells slots M tgt lv st) (kf : ¬ x = none → mm_X g cells slots M q lv st) : mm_X g cells slots M pc lv (mm_r x :: st) := by
  subst hq
  obtain ⟨p, l, e, R, s, m, args, below, meth, c, G, cy, M0, nL, Q⟩ := g
  obtain ⟨hx, hb, -⟩ := C
  intro H locs ls a1 a2 a3 a4 hl
  cases x with
  | none => exact lv_ifnullN hx hb d ht (kt rfl H locs ls a1 a2 a3 a4 hl)
  | some y => exact lv_ifnull hx hb d (kf (fun h => by cases h) H locs ls a1 a2 a3 a4 hl)
theorem xr_ifnonnull (tgt q : Nat) (C : mm_ok g cc own ret nm nL fr lo mc ms) {x : Option Nat} {off : Int} (d : decode cc pc = .ok (.ifnonnull off, 3)) (ht : (pc : Int) + off = (tgt : Int)) (hq : pc + 3 = q) (kt : ¬ x = none → mm_X g cells slots M tgt lv st) (kf : x = none → mm_X g cells slots M q lv st) : mm_X g cells slots M pc lv (mm_r x :: st) := by
  subst hq
  obtain ⟨p, l, e, R, s, m, args, below, meth, c, G, cy, M0, nL, Q⟩ := g
  obtain ⟨hx, hb, -⟩ := C
  intro H locs ls a1 a2 a3 a4 hl
  cases x with
  | none => exact lv_ifnonnullN hx hb d (kf rfl H locs ls a1 a2 a3 a4 hl)
  | some y => exact lv_ifnonnull hx hb d ht (kt (fun h => by cases h) H locs ls a1 a2 a3 a4 hl)
theorem xr_tin (tgt : Nat) (C : mm_ok g cc own ret nm nL fr lo mc ms) {dflt lo_ hi_ : Int} {offs : Array Int} {len : Nat} {x v : Int32} {off : Int} (d : decode cc pc = .ok (.tableswitch dflt lo_ hi_ offs, len)) (hv : x = v) (h1 : ¬ v.toInt < lo_) (h2 : ¬ hi_ < v.toInt) (ho : offs[(v.toInt - lo_).toNat]? = some off) (ht : (pc : Int) + off = (tgt : Int)) (k : mm_X g cells slots M tgt lv st) : mm_X g cells slots M pc lv (mm_i x :: st) := by
  subst hv
  obtain ⟨p, l, e, R, s, m, args, below, meth, c, G, cy, M0, nL, Q⟩ := g
  obtain ⟨hx, hb, -⟩ := C
  intro H locs ls a1 a2 a3 a4 hl
  exact lv_tableIn hx hb d h1 h2 ho ht (k H locs ls a1 a2 a3 a4 hl)
theorem xr_tout (tgt : Nat) (C : mm_ok g cc own ret nm nL fr lo mc ms) {dflt lo_ hi_ : Int} {offs : Array Int} {len : Nat} {x : Int32} (d : decode cc pc = .ok (.tableswitch dflt lo_ hi_ offs, len)) (h : x.toInt < lo_ ∨ hi_ < x.toInt) (ht : (pc : Int) + dflt = (tgt : Int)) (k : mm_X g cells slots M tgt lv st) : mm_X g cells slots M pc lv (mm_i x :: st) := by
  obtain ⟨p, l, e, R, s, m, args, below, meth, c, G, cy, M0, nL, Q⟩ := g
  obtain ⟨hx, hb, -⟩ := C
  intro H locs ls a1 a2 a3 a4 hl
  exact lv_tableOut hx hb d h ht (k H locs ls a1 a2 a3 a4 hl)
end
theorem mm_swd (x : Int32) (n : Nat) (hn : n < 2 ^ 31) (h : ∀ k, k ≤ n → ¬ x = nI k) : x.toInt < 0 ∨ (n : Int) < x.toInt := by
  rcases Int.lt_or_le x.toInt 0 with h0 | h0
  · exact Or.inl h0
  · rcases Int.lt_or_le (n : Int) x.toInt with h1 | h1
    · exact Or.inr h1
    · exfalso
      obtain ⟨j, hj⟩ : ∃ j : Nat, x.toInt = (j : Int) := ⟨x.toInt.toNat, by omega⟩
      refine h j (by omega) (Int32.toInt_inj.mp ?_)
      rw [nI_toInt (by omega), hj]
section
variable {g : mm_c} {cc : ByteArray} {own nm : String} {ret : Option FieldType} {nL fr lo mc ms cells slots : Nat} {M : mm_M} {pc : Nat} {lv : List (Nat × mm_V)} {st : List mm_V}
theorem xr_idivv (q : Nat) (C : mm_ok g cc own ret nm nL fr lo mc ms) {x y v : Int32} (hf : mm_dI x y = some v) (d : decode cc pc = .ok (.idiv, 1)) (hq : pc + 1 = q) (k : mm_X g cells slots M q lv (mm_i v :: st)) : mm_X g cells slots M pc lv (mm_i y :: mm_i x :: st) := by
  unfold mm_dI at hf
  split at hf
  case isTrue => cases hf
  case isFalse hne => exact xr_idiv q C d hne hq (by rw [Option.some.inj hf]; exact k)
theorem xr_iremv (q : Nat) (C : mm_ok g cc own ret nm nL fr lo mc ms) {x y v : Int32} (hf : mm_mI x y = some v) (d : decode cc pc = .ok (.irem, 1)) (hq : pc + 1 = q) (k : mm_X g cells slots M q lv (mm_i v :: st)) : mm_X g cells slots M pc lv (mm_i y :: mm_i x :: st) := by
  unfold mm_mI at hf
  split at hf
  case isTrue => cases hf
  case isFalse hne => exact xr_irem q C d hne hq (by rw [Option.some.inj hf]; exact k)
theorem xr_ldivv (q : Nat) (C : mm_ok g cc own ret nm nL fr lo mc ms) {x y v : Int64} (hf : mm_dL x y = some v) (d : decode cc pc = .ok (.ldiv, 1)) (hq : pc + 1 = q) (k : mm_X g cells slots M q lv (mm_j v :: st)) : mm_X g cells slots M pc lv (mm_j y :: mm_j x :: st) := by
  unfold mm_dL at hf
  split at hf
  case isTrue => cases hf
  case isFalse hne => exact xr_ldiv q C d hne hq (by rw [Option.some.inj hf]; exact k)
theorem xr_lremv (q : Nat) (C : mm_ok g cc own ret nm nL fr lo mc ms) {x y v : Int64} (hf : mm_mL x y = some v) (d : decode cc pc = .ok (.lrem, 1)) (hq : pc + 1 = q) (k : mm_X g cells slots M q lv (mm_j v :: st)) : mm_X g cells slots M pc lv (mm_j y :: mm_j x :: st) := by
  unfold mm_mL at hf
  split at hf
  case isTrue => cases hf
  case isFalse hne => exact xr_lrem q C d hne hq (by rw [Option.some.inj hf]; exact k)
end
theorem mm_swd2 (x : Int32) (lo n : Nat) (hn : n < 2 ^ 31) (h : ∀ k, lo ≤ k → k ≤ n → ¬ x = nI k) : x.toInt < (lo : Int) ∨ (n : Int) < x.toInt := by
  rcases Int.lt_or_le x.toInt lo with h0 | h0
  · exact Or.inl h0
  · rcases Int.lt_or_le (n : Int) x.toInt with h1 | h1
    · exact Or.inr h1
    · exfalso
      obtain ⟨j, hj⟩ : ∃ j : Nat, x.toInt = (j : Int) := ⟨x.toInt.toNat, by omega⟩
      refine h j (by omega) (by omega) (Int32.toInt_inj.mp ?_)
      rw [nI_toInt (by omega), hj]
theorem xr_iincW {g : mm_c} {cc : ByteArray} {own nm : String} {ret : Option FieldType} {nL fr lo mc ms cells slots : Nat} {M : mm_M} {pc : Nat} {lv : List (Nat × mm_V)} {st : List mm_V} (q at_ : Nat) (C : mm_ok g cc own ret nm nL fr lo mc ms) {i : Nat} {n : Int} {x v : Int32} (d : decode cc pc = .ok (.iinc i n, 6)) (hl0 : lv[at_]? = some (i, mm_i x)) (hn : i < nL) (hv : Int32.ofInt n = v) (hq : pc + 6 = q) (lv2 : List (Nat × mm_V)) (h2 : (i, mm_i (x + v)) :: mm_f1 i lv = lv2) (k : mm_X g cells slots M q lv2 st) : mm_X g cells slots M pc lv st := by
  subst hq
  subst h2
  subst hv
  obtain ⟨p, l, e, R, s, m, args, below, meth, c, G, cy, M0, nL2, Q⟩ := g
  obtain ⟨hx, hb, -, rfl, -⟩ := C
  intro H locs ls a1 a2 a3 a4 hl
  exact lv_iincW (lv' := mm_lv ((i, mm_i (x + Int32.ofInt n)) :: mm_f1 i lv)) hx hb d hl (k := at_) (by rw [List.getElem?_map, hl0]; rfl) rfl hn (by rw [mm_f1_eq]; rfl) (fun ls2 h5 => k H locs ls2 a1 a2 a3 a4 h5)
