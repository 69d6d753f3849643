section
variable {g : mm_c} {cc : ByteArray} {own nm : String} {ret : Option FieldType} {nL fr lo mc ms cells slots : Nat} {M M1 : mm_M} {pc : Nat} {lv : List (Nat × mm_V)} {st : List mm_V}
theorem mm_s_p {A : Nat → Prop} {M : mm_M} {s : State} {H : Heap} (h : mm_s A M s H) : mm_p M := ⟨h.1, h.2.1⟩
-- arraylength
theorem xr_alen (q : Nat) (C : mm_ok g cc own ret nm nL fr lo mc ms) {r : Option Nat} {v : Int32} (hf : mm_ln M r = some v) (d : decode cc pc = .ok (.arraylength, 1)) (hq : pc + 1 = q) (kk : mm_X g cells slots M q lv (mm_i v :: st)) : mm_X g cells slots M pc lv (mm_r r :: st) := by
  subst hq
  obtain ⟨p, l, e, R, s, m, args, below, meth, c, G, cy, M0, nL2, Q⟩ := g
  obtain ⟨hx, hb, hml, hnl, hown, hts, hv, hlk, hr, hnm, hsz, hR⟩ := C
  cases r with
  | none => cases hf
  | some a =>
    unfold mm_ln at hf
    simp only at hf
    cases hk : mm_k M a with
    | none => rw [hk] at hf; cases hf
    | some w =>
      rw [hk] at hf
      simp only at hf
      split at hf
      case isFalse => cases hf
      case isTrue hc =>
        have hvv := (Option.some.inj hf).symm
        subst hvv
        obtain ⟨kd, n⟩ := w
        simp only at hc
        intro H locs ls a1 a2 a3 a4 hl
        by_cases h18 : kd = 18
        · subst h18
          obtain ⟨e1, e2⟩ := a3.2.1 a n hk
          subst e1; subst e2
          obtain ⟨cell, h1, h2, h3, h4, h5, h6, h7⟩ := a3.2.2.1
          exact W.alen (n := Int32.ofNat 0) hx hb h1 h2 h5 rfl rfl d (kk H locs ls a1 a2 a3 a4 hl)
        · have hat := mm_h_at a1 hk (by omega)
          rcases (show kd = 12 ∨ kd = 13 ∨ kd = 14 ∨ (kd = 15 ∨ kd = 16 ∨ kd = 17) by omega) with rfl | rfl | rfl | h3
          · rw [mm_ce_i hk] at hat
            exact va_alen hx hb hv.1 hat 0 0 rfl rfl rfl d (kk H locs ls a1 a2 a3 a4 hl)
          · rw [mm_ce_l hk] at hat
            exact va_alen hx hb hv.1 hat 0 1 rfl rfl rfl d (kk H locs ls a1 a2 a3 a4 hl)
          · rw [mm_ce_z hk] at hat
            exact va_alen hx hb hv.1 hat 0 2 rfl rfl rfl d (kk H locs ls a1 a2 a3 a4 hl)
          · rw [mm_ce_q hk (by omega)] at hat
            obtain ⟨C, ht, -⟩ := mm_tyk (cy := cy) h3
            exact va_alen hx hb hv.1 hat 0 _ rfl ht rfl d (kk H locs ls a1 a2 a3 a4 hl)
-- new objects
theorem xr_new (q : Nat) (C : mm_ok g cc own ret nm nL fr lo mc ms) {idx ci N : Nat} {Cn : String} {T : u_T} {ty : Nat → FieldType} (hc : vwCl[ci]? = some (Cn, T, N)) (hci : ci < 12) (hin : ∀ w ∈ u_ws Cn T N, w ∈ mm_gt) (hty : ∀ k, k < N → parseFieldDescriptor (T k).2.2.1 = some (ty k)) (hfs : ∀ j, j < N → defaultValue (ty j) = vp_V (mm_fl (mm_ft ci) 0 (fun _ => 0) (fun _ => none)) j)
    (w1 : Cond.classLink own idx Cn ∈ mm_gt) (w2 : Cond.instantiable Cn N ∈ mm_gt) (w3 : Cond.initialized Cn ∈ mm_gt) (d : decode cc pc = .ok (.new idx, 3)) (hcs : cells + 1 ≤ mc ∧ slots + N ≤ ms) (hq : pc + 3 = q) (hM1 : M1 = mm_nw M (ci, 0))
    (kk : mm_X g (cells + 1) (slots + N) M1 q lv (mm_r (some (mm_n M)) :: st)) : mm_X g cells slots M pc lv st := by
  subst hq
  subst hM1
  obtain ⟨p, l, e, R, s, m, args, below, meth, c, G, cy, M0, nL2, Q⟩ := g
  obtain ⟨hx, hb, hml, hnl, hown, hts, hv, hlk, hr, hnm, hsz, hR⟩ := C
  subst hR
  intro H locs ls a1 a2 a3 a4 hl
  have hKn := hv.1.1 ci _ hc
  refine W.newcK hx hb hown (hts _ w1) (hts _ w2) (hts _ w3) rfl d hcs.1 hcs.2 hKn.2.1 (h := mm_n M) a1.1 fun H1 kC hkC e1 z1 o1 => ?_
  obtain ⟨b1, b2, b3, b4⟩ := mm_step_n (kd := (ci, 0)) (H1 := H1) a1 a2 a3 a4 (by simp only; omega) (by
    rw [mm_ce_obj (M := mm_nw M (ci, 0)) (a := mm_n M) (k := ci) (n := 0) (if_pos rfl) hci]
    refine ⟨_, hc, (u_born ty hts hin hKn hkC e1 hty).to fun j hj => ?_⟩
    rw [hfs j hj]
    congr 2
    · funext z; exact (if_pos rfl).symm
    · funext z; exact (if_pos rfl).symm) (by rw [z1, a1.1]) (by rw [a1.1]; exact o1)
  exact kk H1 locs ls b1 b2 b3 b4 hl
theorem xr_newa (q : Nat) (C : mm_ok g cc own ret nm nL fr lo mc ms) {at_ : ArrayType} {kd lim : Nat} {i : Int32} (hkd : (kd = 12 ∧ at_ = .int) ∨ (kd = 13 ∧ at_ = .long) ∨ (kd = 14 ∧ at_ = .boolean)) (hlim : lim ≤ 60000000) (w1 : Cond.arrayClass (newarray.typeOf at_) ∈ mm_gt) (hf : mm_na M kd i lim = some M1) (d : decode cc pc = .ok (.newarray at_, 2)) (hcs : cells + 1 ≤ mc ∧ slots + lim ≤ ms) (hq : pc + 2 = q)
    (kk : mm_X g (cells + 1) (slots + lim) M1 q lv (mm_r (some (mm_n M)) :: st)) : mm_X g cells slots M pc lv (mm_i i :: st) := by
  subst hq
  obtain ⟨p, l, e, R, s, m, args, below, meth, c, G, cy, M0, nL2, Q⟩ := g
  obtain ⟨hx, hb, hml, hnl, hown, hts, hv, hlk, hr, hnm, hsz, hR⟩ := C
  subst hR
  unfold mm_na at hf
  split at hf
  case isFalse => cases hf
  case isTrue hc =>
    have hvv := (Option.some.inj hf).symm
    subst hvv
    intro H locs ls a1 a2 a3 a4 hl
    have hh := a1.1
    have hcl : ∀ (cA : ClassId), s.vm.findClass ("[" ++ (newarray.typeOf at_).toString) = some cA → cA = cy kd := by
      intro cA hcA
      rcases hkd with ⟨rfl, rfl⟩ | ⟨rfl, rfl⟩ | ⟨rfl, rfl⟩
      · exact Option.some.inj (hcA.symm.trans (hv.1.2 0 _ rfl).2)
      · exact Option.some.inj (hcA.symm.trans (hv.1.2 1 _ rfl).2)
      · exact Option.some.inj (hcA.symm.trans (hv.1.2 2 _ rfl).2)
    refine va_newaK hx hb (hts _ w1) rfl d rfl hc.1 rfl ?_ hcs.1 (Nat.le_trans (Nat.add_le_add_left hc.2 _) hcs.2) (h := mm_n M) hh fun H1 cA e1 z1 o1 hAr hNm => ?_
    · have : componentBytes (newarray.typeOf at_) ≤ 8 := by rcases hkd with ⟨-, rfl⟩ | ⟨-, rfl⟩ | ⟨-, rfl⟩ <;> decide
      exact Nat.le_trans (Nat.mul_le_mul (Nat.le_trans hc.2 hlim) this) (by decide)
    · have := hcl cA hNm
      subst this
      obtain ⟨b1, b2, b3, b4⟩ := mm_step_n (kd := (kd, i.toNatClampNeg)) (H1 := H1) a1 a2 a3 a4 (by simp only; omega) (by
        rcases hkd with ⟨rfl, rfl⟩ | ⟨rfl, rfl⟩ | ⟨rfl, rfl⟩
        · rw [mm_ce_i (M := mm_nw M (12, i.toNatClampNeg)) (a := mm_n M) (n := i.toNatClampNeg) (if_pos rfl)]
          show H1[mm_n M]? = some (vp_cell _ _)
          rw [e1, vp_cell_i]
          congr 2
          funext z
          exact congrArg Value.int (if_pos rfl).symm
        · rw [mm_ce_l (M := mm_nw M (13, i.toNatClampNeg)) (a := mm_n M) (n := i.toNatClampNeg) (if_pos rfl)]
          show H1[mm_n M]? = some (vp_cell _ _)
          rw [e1, vp_cell_l]
          congr 2
          funext z
          exact congrArg Value.long (if_pos rfl).symm
        · rw [mm_ce_z (M := mm_nw M (14, i.toNatClampNeg)) (a := mm_n M) (n := i.toNatClampNeg) (if_pos rfl)]
          show H1[mm_n M]? = some (vp_cell _ _)
          rw [e1, vp_cell_i]
          congr 2
          funext z
          exact congrArg Value.int (if_pos rfl).symm) (by rw [z1, hh]) (by rw [hh]; exact o1)
      exact W.widen (Nat.le_refl _) (Nat.add_le_add_left hc.2 _) (kk H1 locs ls b1 b2 b3 b4 hl)
theorem xr_newq (q : Nat) (C : mm_ok g cc own ret nm nL fr lo mc ms) {kd lim idx : Nat} {Cn : String} {i : Int32} (hkd : (kd = 15 ∧ Cn = "LessonCards$Learner") ∨ (kd = 16 ∧ Cn = "LessonCards$Memory") ∨ (kd = 17 ∧ Cn = "java/lang/Object")) (hlim : lim ≤ 60000000) (w1 : Cond.classLink own idx Cn ∈ mm_gt) (hf : mm_na M kd i lim = some M1) (d : decode cc pc = .ok (.anewarray idx, 3)) (hcs : cells + 1 ≤ mc ∧ slots + lim ≤ ms) (hq : pc + 3 = q)
    (kk : mm_X g (cells + 1) (slots + lim) M1 q lv (mm_r (some (mm_n M)) :: st)) : mm_X g cells slots M pc lv (mm_i i :: st) := by
  subst hq
  obtain ⟨p, l, e, R, s, m, args, below, meth, c, G, cy, M0, nL2, Q⟩ := g
  obtain ⟨hx, hb, hml, hnl, hown, hts, hv, hlk, hr, hnm, hsz, hR⟩ := C
  subst hR
  unfold mm_na at hf
  split at hf
  case isFalse => cases hf
  case isTrue hc =>
    have hvv := (Option.some.inj hf).symm
    subst hvv
    intro H locs ls a1 a2 a3 a4 hl
    have hh := a1.1
    have hAO : va_AO Cn s := by
      rcases hkd with ⟨-, rfl⟩ | ⟨-, rfl⟩ | ⟨-, rfl⟩
      · exact hv.2.2.1
      · exact hv.2.2.2.1
      · exact hv.2.2.2.2.1
    obtain ⟨C, ht, hC⟩ := mm_tyk (cy := cy) (k := kd) (by omega)
    have hCC : C = Cn := by
      rcases hkd with ⟨h, rfl⟩ | ⟨h, rfl⟩ | ⟨h, rfl⟩ <;> rcases hC with ⟨h2, h3⟩ | ⟨h2, h3⟩ | ⟨h2, h3⟩ <;> first | exact h3 | omega
    subst hCC
    have hcl : ∀ (cA : ClassId), s.vm.findClass ("[" ++ (FieldType.object C).toString) = some cA → cA = cy kd := by
      intro cA hcA
      obtain ⟨kA, comp, k1, k2, k3, k4⟩ := (hv.1.2 _ _ ht).2
      exact Option.some.inj (hcA.symm.trans k4)
    refine W.anew hx hb hown (hts _ w1) (va_AO.use hAO) rfl d rfl hc.1 (Nat.le_trans (Nat.mul_le_mul_right 4 (Nat.le_trans hc.2 hlim)) (by decide)) hcs.1 (Nat.le_trans (Nat.add_le_add_left hc.2 _) hcs.2) fun cA kA comp f1 f2 f3 f4 => ?_
    have := hcl cA f1
    subst this
    generalize hH1 : H.push ({ cls := cy kd, slots := Array.replicate i.toNatClampNeg .null, vm := .none } : Cell) = H1
    have z1 : H1.size = H.size + 1 := by rw [← hH1, Array.size_push]
    have e1 : H1[H.size]? = some (arrV (cy kd) i.toNatClampNeg (fun _ => .null)) := by rw [← hH1, Array.getElem?_push_size, ← arrV_new]
    have o1 : ∀ q : Nat, q < H.size → H1[q]? = H[q]? := fun q hq => by rw [← hH1, Array.getElem?_push, if_neg (Nat.ne_of_lt hq)]
    obtain ⟨b1, b2, b3, b4⟩ := mm_step_n (kd := (kd, i.toNatClampNeg)) (H1 := H1) a1 a2 a3 a4 (by simp only; omega) (by
      rw [mm_ce_q (M := mm_nw M (kd, i.toNatClampNeg)) (a := mm_n M) (k := kd) (n := i.toNatClampNeg) (if_pos rfl) (by omega)]
      show H1[mm_n M]? = some (vp_cell _ _)
      rw [← hh, e1, vp_cell_q]
      congr 2
      funext z
      have hz : (mm_nw M (kd, i.toNatClampNeg)).2.2.1 (mm_n M) z = none := if_pos rfl
      rw [hh, hz]
      rfl) z1 o1
    have k2 := kk H1 locs ls b1 b2 b3 b4 hl
    refine W.widen (Nat.le_refl _) (Nat.add_le_add_left hc.2 _) ?_
    rw [hh]
    exact k2
-- casts
theorem xr_cast (q : Nat) (C : mm_ok g cc own ret nm nL fr lo mc ms) {idx ci : Nat} {x : vw_C} {r : Option Nat} (hc : vwCl[ci]? = some x) (hci : ci < 12) (w1 : Cond.classLink own idx x.1 ∈ mm_gt) {u : Unit} (hf : mm_cc M r ci = some u) (d : decode cc pc = .ok (.checkcast idx, 3)) (hq : pc + 3 = q) (kk : mm_X g cells slots M q lv (mm_r r :: st)) : mm_X g cells slots M pc lv (mm_r r :: st) := by
  subst hq
  obtain ⟨p, l, e, R, s, m, args, below, meth, c, G, cy, M0, nL2, Q⟩ := g
  obtain ⟨hx, hb, hml, hnl, hown, hts, hv, hlk, hr, hnm, hsz, hR⟩ := C
  intro H locs ls a1 a2 a3 a4 hl
  have k2 := kk H locs ls a1 a2 a3 a4 hl
  cases r with
  | none => exact lv_castN hx hb d k2
  | some a =>
    unfold mm_cc at hf
    simp only at hf
    split at hf
    case isFalse => cases hf
    case isTrue hk =>
      have hat := mm_h_at a1 hk (by omega)
      rw [mm_ce_obj hk hci] at hat
      exact va_castS hx hb hown (hts _ w1) (hv.1.1 ci _ hc).2 (va_recv hv.1 hat hc (q0 := 0) rfl) d k2
-- the static
theorem xr_gets (q : Nat) (C : mm_ok g cc own ret nm nL fr lo mc ms) {idx : Nat} (w1 : Cond.fieldLink own idx "java/util/ArrayList" "DEFAULTCAPACITY_EMPTY_ELEMENTDATA" "[Ljava/lang/Object;" ∈ mm_gt) (d : decode cc pc = .ok (.getstatic idx, 3)) (hq : pc + 3 = q) (kk : mm_X g cells slots M q lv (mm_r (some (mm_z M)) :: st)) : mm_X g cells slots M pc lv st := by
  subst hq
  obtain ⟨p, l, e, R, s, m, args, below, meth, c, G, cy, M0, nL2, Q⟩ := g
  obtain ⟨hx, hb, hml, hnl, hown, hts, hv, hlk, hr, hnm, hsz, hR⟩ := C
  intro H locs ls a1 a2 a3 a4 hl
  obtain ⟨cf, kf, fi, f, a, cell, h1, h2, h3, h4, h5, h6, h7, h8⟩ := a3.2.2.2
  exact W.gets hx hb hown (hts _ w1) h1 h2 h3 h4 h5 (fun e => by rw [e] at h6; cases h6) h7 rfl d (kk H locs ls a1 a2 a3 a4 hl)
-- ends
theorem mm_end {v : Option mm_V} {p : Program} {l : Launch} {e : Env} {R : Room} {s : State} {m : MethodId} {args : Array Value} {below : List Frame} {meth : Method} {c : Code} {G : va_G} {cy : Nat → ClassId} {M0 : mm_M} {H : Heap} {locs : List Loc} (a1 : mm_h G cy M H) (a2 : mm_x M0 M) (a3 : mm_s (mm_D M0) M s H) (a4 : va_S (mm_D M0) s.heap H locs) :
    ∀ t : State, t.heap = H → s.WarmedH t.vm → mm_Q G cy M0 v M args s (.returned (v.map mm_val)) t := fun t ht _ => ⟨⟨rfl, a2, by rw [ht]; exact a1, mm_s_p a3⟩, a4.F ht⟩
theorem xr_iret (C : mm_ok g cc own (some .int) nm nL fr lo mc ms) {x : Int32} (hq : mm_q g mc ms (some (mm_i x)) M) (hcs : cells ≤ mc ∧ slots ≤ ms) (d : decode cc pc = .ok (.ireturn, 1)) : mm_X g cells slots M pc lv [mm_i x] := by
  obtain ⟨p, l, e, R, s, m, args, below, meth, c, G, cy, M0, nL2, Q⟩ := g
  obtain ⟨hx, hb, hml, hnl, hown, hts, hv, hlk, hr, hnm, hsz, hR⟩ := C
  intro H locs ls a1 a2 a3 a4 hl
  have hq' : Q = _ := hq
  subst hq'
  exact W.widen hcs.1 hcs.2 (W.iret hx hb hr (mm_end (v := some (mm_i x)) (p := p) (l := l) (e := e) (R := R) (m := m) (below := below) (meth := meth) (c := c) a1 a2 a3 a4) a4.2.2 d hlk)
theorem xr_zret (C : mm_ok g cc own (some .boolean) nm nL fr lo mc ms) {x : Int32} (hx01 : x = 0 ∨ x = 1) (hq : mm_q g mc ms (some (mm_i x)) M) (hcs : cells ≤ mc ∧ slots ≤ ms) (d : decode cc pc = .ok (.ireturn, 1)) : mm_X g cells slots M pc lv [mm_i x] := by
  obtain ⟨p, l, e, R, s, m, args, below, meth, c, G, cy, M0, nL2, Q⟩ := g
  obtain ⟨hx, hb, hml, hnl, hown, hts, hv, hlk, hr, hnm, hsz, hR⟩ := C
  intro H locs ls a1 a2 a3 a4 hl
  have hq' : Q = _ := hq
  subst hq'
  exact W.widen hcs.1 hcs.2 (W.zret hx hb hr (by rcases hx01 with z | z <;> (rw [z]; decide)) (mm_end (v := some (mm_i x)) (p := p) (l := l) (e := e) (R := R) (m := m) (below := below) (meth := meth) (c := c) a1 a2 a3 a4) a4.2.2 d hlk)
theorem xr_lret (C : mm_ok g cc own (some .long) nm nL fr lo mc ms) {x : Int64} (hq : mm_q g mc ms (some (mm_j x)) M) (hcs : cells ≤ mc ∧ slots ≤ ms) (d : decode cc pc = .ok (.lreturn, 1)) : mm_X g cells slots M pc lv [mm_j x] := by
  obtain ⟨p, l, e, R, s, m, args, below, meth, c, G, cy, M0, nL2, Q⟩ := g
  obtain ⟨hx, hb, hml, hnl, hown, hts, hv, hlk, hr, hnm, hsz, hR⟩ := C
  intro H locs ls a1 a2 a3 a4 hl
  have hq' : Q = _ := hq
  subst hq'
  exact W.widen hcs.1 hcs.2 (W.lret hx hb hr (mm_end (v := some (mm_j x)) (p := p) (l := l) (e := e) (R := R) (m := m) (below := below) (meth := meth) (c := c) a1 a2 a3 a4) a4.2.2 d hlk)
theorem xr_vret (C : mm_ok g cc own none nm nL fr lo mc ms) (hq : mm_q g mc ms none M) (hcs : cells ≤ mc ∧ slots ≤ ms) (d : decode cc pc = .ok (.return_, 1)) : mm_X g cells slots M pc lv [] := by
  obtain ⟨p, l, e, R, s, m, args, below, meth, c, G, cy, M0, nL2, Q⟩ := g
  obtain ⟨hx, hb, hml, hnl, hown, hts, hv, hlk, hr, hnm, hsz, hR⟩ := C
  intro H locs ls a1 a2 a3 a4 hl
  have hq' : Q = _ := hq
  subst hq'
  exact W.widen hcs.1 hcs.2 (W.vret hx hb hr (mm_end (v := none) (p := p) (l := l) (e := e) (R := R) (m := m) (below := below) (meth := meth) (c := c) a1 a2 a3 a4) a4.2.2 d hlk)
theorem xr_aret {rt : FieldType} (hrt : (∃ n, rt = .object n) ∨ ∃ t, rt = .array t) (C : mm_ok g cc own (some rt) nm nL fr lo mc ms) {x : Option Nat} (hq : mm_q g mc ms (some (mm_r x)) M) (hcs : cells ≤ mc ∧ slots ≤ ms) (d : decode cc pc = .ok (.areturn, 1)) : mm_X g cells slots M pc lv [mm_r x] := by
  obtain ⟨p, l, e, R, s, m, args, below, meth, c, G, cy, M0, nL2, Q⟩ := g
  obtain ⟨hx, hb, hml, hnl, hown, hts, hv, hlk, hr, hnm, hsz, hR⟩ := C
  intro H locs ls a1 a2 a3 a4 hl
  have hq' : Q = _ := hq
  subst hq'
  exact W.widen hcs.1 hcs.2 (W.aret hx hb hr hrt (by cases x with | none => exact Or.inl rfl | some a => exact Or.inr ⟨a, rfl⟩) (mm_end (v := some (mm_r x)) (p := p) (l := l) (e := e) (R := R) (m := m) (below := below) (meth := meth) (c := c) a1 a2 a3 a4) a4.2.2 d hlk)
end
