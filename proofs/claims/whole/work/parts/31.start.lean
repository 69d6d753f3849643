/-- the memory before anything is made -/
def mm_em (n z : Nat) : mm_M := (fun a => if a = z then some (18, 0) else none, fun _ _ => 0, fun _ _ => none, fun _ _ => 0, n, z)
theorem mm_em_D (n z : Nat) : mm_D (mm_em n z) = fun q => n ≤ q := by
  funext q
  apply propext
  constructor
  · rintro (⟨k, m, h, hk⟩ | h)
    · exfalso
      have h2 : (if q = z then some (18, 0) else (none : Option (Nat × Nat))) = some (k, m) := h
      split at h2
      · have := congrArg Prod.fst (Option.some.inj h2)
        simp only at this
        omega
      · cases h2
    · exact h
  · exact fun h => Or.inr h
set_option maxHeartbeats 4000000 in
set_option maxRecDepth 100000 in
/-- the law's walk, out of what its function answers -/
theorem whole_start_f (hp : ∀ (sc : Option Nat) (xs : Nat → Int32) (L n z : Nat), L ≤ 2560 → z < n → f_L_law_0 sc xs L (mm_em n z) = some 1) {p : Program} {e : Env} {s : State} {m : MethodId} {below : List Frame} {meth : Method} {c : Code} (l : Launch) (hflags : l.flags = flags0) {b L : Nat} {xs : Nat → Int32} (hL : L ≤ 2560) (C0 : lw_At p s m meth c b L xs) : W p l e room_1 s m #[Value.ref b] below meth c s.heap [] 0 0 (lw_Z below #[Value.ref b] s) (entryFrame m ([Value.ref b] : List Value).toArray 4) := by
  obtain ⟨hx, hb, hr, hml, hown, hts, hX, hbl, hlocks, hgv⟩ := id C0
  have hgt : ∀ w ∈ mm_gt, w.before #[Value.ref b] s = true := fun w hw => hts w (List.mem_filter.mp hw).1
  have hfl := flat_of_before _ hgv
  obtain ⟨c0, i0, hKn0⟩ := u_known (C := RJx4a65c) (T := TJx4a65c) (N := 3) (n := 3) hgt in_Jx4a65c (hgt _ wd_96)
  obtain ⟨c1, i1, hKn1⟩ := u_known (C := RX0) (T := TX0) (N := 2) (n := 2) hgt in_X0 (hgt _ wd_365)
  obtain ⟨c2, i2, hKn2⟩ := u_known (C := RX1) (T := TX1) (N := 2) (n := 2) hgt in_X1 (hgt _ wd_75)
  obtain ⟨c3, i3, hKn3⟩ := u_known (C := RX2) (T := TX2) (N := 3) (n := 3) hgt in_X2 (hgt _ wd_90)
  obtain ⟨c4, i4, hKn4⟩ := u_known (C := RX3) (T := TX3) (N := 7) (n := 7) hgt in_X3 (hgt _ wd_573)
  obtain ⟨c5, i5, hKn5⟩ := u_known (C := RX4) (T := TX4) (N := 5) (n := 5) hgt in_X4 (hgt _ wd_160)
  obtain ⟨c6, i6, hKn6⟩ := u_known (C := RX5) (T := TX5) (N := 1) (n := 1) hgt in_X5 (hgt _ wd_260)
  obtain ⟨c7, i7, hKn7⟩ := u_known (C := RX6) (T := TX6) (N := 4) (n := 4) hgt in_X6 (hgt _ wd_134)
  obtain ⟨c8, i8, hKn8⟩ := u_known (C := RX7) (T := TX7) (N := 6) (n := 6) hgt in_X7 (hgt _ wd_182)
  obtain ⟨c9, i9, hKn9⟩ := u_known (C := RX8) (T := TX8) (N := 7) (n := 7) hgt in_X8 (hgt _ wd_267)
  obtain ⟨c10, i10, hKn10⟩ := u_known (C := RX9) (T := TX9) (N := 11) (n := 11) hgt in_X9 (hgt _ wd_67)
  obtain ⟨c11, i11, hKn11⟩ := u_known (C := RX10) (T := TX10) (N := 48) (n := 48) hgt in_X10 (hgt _ wd_930)
  obtain ⟨dC, dI, hKc⟩ : ∃ (dC : Nat → ClassId) (dI : Nat → Nat → Nat), ∀ (k : Nat) (q : vw_C), vwCl[k]? = some q → u_Kn s q.1 q.2.1 q.2.2 (dC k) (dI k) := by
    refine ⟨fun k => if k = 0 then c0 else if k = 1 then c1 else if k = 2 then c2 else if k = 3 then c3 else if k = 4 then c4 else if k = 5 then c5 else if k = 6 then c6 else if k = 7 then c7 else if k = 8 then c8 else if k = 9 then c9 else if k = 10 then c10 else c11, fun k => if k = 0 then i0 else if k = 1 then i1 else if k = 2 then i2 else if k = 3 then i3 else if k = 4 then i4 else if k = 5 then i5 else if k = 6 then i6 else if k = 7 then i7 else if k = 8 then i8 else if k = 9 then i9 else if k = 10 then i10 else i11, ?_⟩
    intro k q hq
    match k, hq with
    | 0, hq => cases hq; exact hKn0
    | 1, hq => cases hq; exact hKn1
    | 2, hq => cases hq; exact hKn2
    | 3, hq => cases hq; exact hKn3
    | 4, hq => cases hq; exact hKn4
    | 5, hq => cases hq; exact hKn5
    | 6, hq => cases hq; exact hKn6
    | 7, hq => cases hq; exact hKn7
    | 8, hq => cases hq; exact hKn8
    | 9, hq => cases hq; exact hKn9
    | 10, hq => cases hq; exact hKn10
    | 11, hq => cases hq; exact hKn11
    | k + 12, hq => simp [vwCl] at hq
  obtain ⟨a12, b12, o12, e12, f12, g12⟩ := Cond.arrayClass_spec (hts (.arrayClass .int) (List.mem_of_getElem? (i := 88) (by decide +kernel)))
  obtain ⟨a13, b13, o13, e13, f13, g13⟩ := Cond.arrayClass_spec (hts (.arrayClass .long) (List.mem_of_getElem? (i := 208) (by decide +kernel)))
  obtain ⟨a14, b14, o14, e14, f14, g14⟩ := Cond.arrayClass_spec (hts (.arrayClass .boolean) (List.mem_of_getElem? (i := 131) (by decide +kernel)))
  have v15 := hts (.arrayOver (.object "LessonCards$Learner")) (List.mem_of_getElem? (i := 133) (by decide +kernel))
  have v16 := hts (.arrayOver (.object "LessonCards$Memory")) (List.mem_of_getElem? (i := 266) (by decide +kernel))
  have v17 := hts (.arrayOver (.object "java/lang/Object")) (List.mem_of_getElem? (i := 350) (by decide +kernel))
  obtain ⟨o15, a15, b15, h15, -, f15, g15, e15⟩ := Cond.arrayOver_spec v15
  obtain ⟨o16, a16, b16, h16, -, f16, g16, e16⟩ := Cond.arrayOver_spec v16
  obtain ⟨o17, a17, b17, h17, -, f17, g17, e17⟩ := Cond.arrayOver_spec v17
  obtain ⟨mi, hmi⟩ := va_Mi.of (hfl (.isRef (.mirror "[Ljava/lang/Object;")) (by decide +kernel))
  obtain ⟨cy, hcy⟩ : ∃ cy : Nat → ClassId, cy 12 = a12 ∧ cy 13 = a13 ∧ cy 14 = a14 ∧ cy 15 = a15 ∧ cy 16 = a16 ∧ cy 17 = a17 ∧ cy 30 = mi := ⟨fun k => if k = 12 then a12 else if k = 13 then a13 else if k = 14 then a14 else if k = 15 then a15 else if k = 16 then a16 else if k = 17 then a17 else mi, rfl, rfl, rfl, rfl, rfl, rfl, rfl⟩
  obtain ⟨rfl, rfl, rfl, rfl, rfl, rfl, rfl⟩ := hcy
  have hv : mm_v (dC, dI) cy s := by
    refine ⟨⟨hKc, fun k q hq => ?_⟩, fun w hw => ?_, va_AO.of v15, va_AO.of v16, va_AO.of v17, hmi⟩
    · match k, hq with
      | 0, hq => cases hq; exact ⟨fun n z => ⟨fun k h => (by cases h), b12, f12, o12, g12⟩, e12⟩
      | 1, hq => cases hq; exact ⟨fun n z => ⟨fun k h => (by cases h), b13, f13, o13, g13⟩, e13⟩
      | 2, hq => cases hq; exact ⟨fun n z => ⟨fun k h => (by cases h), b14, f14, o14, g14⟩, e14⟩
      | 3, hq => cases hq; exact ⟨fun n z => ⟨fun k h => (by cases h), b15, f15, o15, g15⟩, b15, o15, f15, g15, h15, e15⟩
      | 4, hq => cases hq; exact ⟨fun n z => ⟨fun k h => (by cases h), b16, f16, o16, g16⟩, b16, o16, f16, g16, h16, e16⟩
      | 5, hq => cases hq; exact ⟨fun n z => ⟨fun k h => (by cases h), b17, f17, o17, g17⟩, b17, o17, f17, g17, h17, e17⟩
      | k + 6, hq => simp [mm_tys] at hq
    · exact va_Nw.of (mm_nk_tab (List.mem_filter.mp hw).2) (hts w (List.mem_filter.mp hw).1)
  have hA0 : ∀ a : Nat, a < s.heap.size → ¬ (fun q : Nat => s.heap.size ≤ q) a := fun a h z => Nat.not_lt.mpr z h
  obtain ⟨t0, ht0, hT⟩ := va_Tof (N := 0) (f := fun _ => .null) (A := fun q : Nat => s.heap.size ≤ q) (tm := .static "java/util/ArrayList" "DEFAULTCAPACITY_EMPTY_ELEMENTDATA" "[Ljava/lang/Object;") (ty := .object "java/lang/Object") (args := #[Value.ref b]) (s := s) (by decide) (hfl _ (by decide +kernel)) (va_eqt (z := 0) (hfl _ (by decide +kernel))) (fun j hj => absurd hj (Nat.not_lt_zero j)) hA0
  have hZ := va_Zof (args := #[Value.ref b]) (A := fun q : Nat => s.heap.size ≤ q) (hts (.laysStatic "java/util/ArrayList" "DEFAULTCAPACITY_EMPTY_ELEMENTDATA" "[Ljava/lang/Object;") (List.mem_of_getElem? (i := 108) (by decide +kernel))) (hgt _ wd_51) ht0 hA0
  have hzlt : t0 < s.heap.size := by
    obtain ⟨cell, hc, -⟩ := hT
    exact (Array.getElem?_eq_some_iff.mp hc).1
  have hDe := mm_em_D s.heap.size t0
  have C : mm_ok (p, l, e, room_1, s, m, #[Value.ref b], below, meth, c, (dC, dI), cy, mm_em s.heap.size t0, 4, lw_Z below #[Value.ref b] s) cL_law "LessonCardsLaw" (some .boolean) meth.name 4 11 398 600000 7302250 := ⟨hx, hb, hml, rfl, hown, hgt, hv, hlocks, hr, rfl, rfl, rfl⟩
  have S : mm_law (p, l, e, room_1, s, m, #[Value.ref b], below, meth, c, (dC, dI), cy, mm_em s.heap.size t0, 4, lw_Z below #[Value.ref b] s) (some b) L xs := ⟨b, rfl, hX, hbl, fun q hq => by rw [hDe] at hq; exact hq, rfl, rfl⟩
  have hw := w_L_law_0 C S (hp (some b) xs L s.heap.size t0 hL hzlt) (show (fun z : Int32 => z = 1) 1 from rfl)
  have hs : mm_s (mm_D (mm_em s.heap.size t0)) (mm_em s.heap.size t0) s s.heap := by
    rw [hDe]
    refine ⟨if_pos rfl, fun a n h => ?_, hT, hZ⟩
    have h2 : (if a = t0 then some (18, 0) else (none : Option (Nat × Nat))) = some (18, n) := h
    split at h2
    · have := congrArg Prod.snd (Option.some.inj h2)
      exact ⟨by assumption, this.symm⟩
    · cases h2
  have hh : mm_h (dC, dI) cy (mm_em s.heap.size t0) s.heap := by
    refine ⟨rfl, [], fun a => ⟨fun h => (by cases h), fun h => ?_⟩, fun k q h => (by simp [va_pl] at h), ⟨fun i j p q h => (by simp [va_pl] at h), fun k q h => (by simp [va_pl] at h)⟩⟩
    obtain ⟨k, n, h, hk⟩ := h
    have h2 : (if a = t0 then some (18, 0) else (none : Option (Nat × Nat))) = some (k, n) := h
    split at h2
    · have := congrArg Prod.fst (Option.some.inj h2)
      simp only at this
      omega
    · cases h2
  rw [lg_entry_eq]
  have hl := lv_entry ([.ref b]) (n := 4) (Nat.le_of_ble_eq_true rfl)
  exact hw s.heap [] _ hh (mm_x_rf _) hs va_S.rf hl
