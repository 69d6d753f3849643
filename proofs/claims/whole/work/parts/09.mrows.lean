section
variable {g : mm_c} {cc : ByteArray} {own nm : String} {ret : Option FieldType} {nL fr lo mc ms cells slots : Nat} {M M1 : mm_M} {pc : Nat} {lv : List (Nat × mm_V)} {st : List mm_V}
theorem xr_getI (q : Nat) (C : mm_ok g cc own ret nm nL fr lo mc ms) {idx ci k t : Nat} {fin : Bool} {r : Option Nat} {v : Int32} (F : mm_F own idx ci k fin t) (ht : (if t = 1 then 1 else 0) = 0) (hf : mm_fI M r ci k = some v) (d : decode cc pc = .ok (.getfield idx, 3)) (hq : pc + 3 = q) (kk : mm_X g cells slots M q lv (mm_i v :: st)) : mm_X g cells slots M pc lv (mm_r r :: st) := by
  subst hq
  obtain ⟨p, l, e, R, s, m, args, below, meth, c, G, cy, M0, nL2, Q⟩ := g
  obtain ⟨hx, hb, hml, hnl, hown, hts, hv, hlk, hr, hnm, hsz, hR⟩ := C
  cases r with
  | none => cases hf
  | some a =>
    unfold mm_fI at hf
    simp only at hf
    split at hf
    case isFalse => cases hf
    case isTrue hk =>
      have hvv := (Option.some.inj hf).symm
      subst hvv
      intro H locs ls a1 a2 a3 a4 hl
      have hci : ci < 12 := by obtain ⟨_, _, _, _, _, _, h, -⟩ := F; exact h
      have hft : (mm_ft ci)[k]? = some 0 := by obtain ⟨_, _, _, _, _, _, _, _, _, _, _, _, _, _, _, h, -⟩ := F; rw [h, ht]
      have hat := mm_h_at a1 hk (by omega)
      rw [mm_ce_obj hk hci] at hat
      refine mm_getW (fs := mm_fl (mm_ft ci) 0 (M.2.1 a) (M.2.2.1 a)) hx hb hts hown hv F hat (v := mm_val (mm_i (mm_I M a k))) ?_ d (kk H locs ls a1 a2 a3 a4 hl)
      rw [mm_fl_get, hft, Nat.zero_add]
      rfl
theorem xr_getR (q : Nat) (C : mm_ok g cc own ret nm nL fr lo mc ms) {idx ci k t : Nat} {fin : Bool} {r : Option Nat} {v : Option Nat} (F : mm_F own idx ci k fin t) (ht : (if t = 1 then 1 else 0) = 1) (hf : mm_fR M r ci k = some v) (d : decode cc pc = .ok (.getfield idx, 3)) (hq : pc + 3 = q) (kk : mm_X g cells slots M q lv (mm_r v :: st)) : mm_X g cells slots M pc lv (mm_r r :: st) := by
  subst hq
  obtain ⟨p, l, e, R, s, m, args, below, meth, c, G, cy, M0, nL2, Q⟩ := g
  obtain ⟨hx, hb, hml, hnl, hown, hts, hv, hlk, hr, hnm, hsz, hR⟩ := C
  cases r with
  | none => cases hf
  | some a =>
    unfold mm_fR at hf
    simp only at hf
    split at hf
    case isFalse => cases hf
    case isTrue hk =>
      have hvv := (Option.some.inj hf).symm
      subst hvv
      intro H locs ls a1 a2 a3 a4 hl
      have hci : ci < 12 := by obtain ⟨_, _, _, _, _, _, h, -⟩ := F; exact h
      have hft : (mm_ft ci)[k]? = some 1 := by obtain ⟨_, _, _, _, _, _, _, _, _, _, _, _, _, _, _, h, -⟩ := F; rw [h, ht]
      have hat := mm_h_at a1 hk (by omega)
      rw [mm_ce_obj hk hci] at hat
      refine mm_getW (fs := mm_fl (mm_ft ci) 0 (M.2.1 a) (M.2.2.1 a)) hx hb hts hown hv F hat (v := mm_val (mm_r (mm_R M a k))) ?_ d (kk H locs ls a1 a2 a3 a4 hl)
      rw [mm_fl_get, hft, Nat.zero_add]
      rfl
theorem xr_putI (q : Nat) (C : mm_ok g cc own ret nm nL fr lo mc ms) {idx ci k : Nat} {fin : Bool} {r : Option Nat} {v : Int32} (F : mm_F own idx ci k fin 0) (hfin : fin = true → nm = "<init>" ∧ mm_own own ci k) (hf : mm_pI M r ci k v = some M1) (d : decode cc pc = .ok (.putfield idx, 3)) (hq : pc + 3 = q) (kk : mm_X g cells slots M1 q lv st) : mm_X g cells slots M pc lv (mm_i v :: mm_r r :: st) := by
  subst hq
  obtain ⟨p, l, e, R, s, m, args, below, meth, c, G, cy, M0, nL2, Q⟩ := g
  obtain ⟨hx, hb, hml, hnl, hown, hts, hv, hlk, hr, hnm, hsz, hR⟩ := C
  cases r with
  | none => cases hf
  | some a =>
    unfold mm_pI at hf
    simp only at hf
    split at hf
    case isFalse => cases hf
    case isTrue hk =>
      have hvv := (Option.some.inj hf).symm
      subst hvv
      intro H locs ls a1 a2 a3 a4 hl
      have hci : ci < 12 := by obtain ⟨_, _, _, _, _, _, h, -⟩ := F; exact h
      have hft : (mm_ft ci)[k]? = some 0 := by obtain ⟨_, _, _, _, _, _, _, _, _, _, _, _, _, _, _, h, -⟩ := F; rw [h]; rfl
      have hka : M.1 a = some (ci, 0) := hk
      have hat := mm_h_at a1 hka (by omega) 0 _ rfl
      rw [mm_ce_obj hka hci] at hat
      have hce : mm_ce cy (mm_sI M a k v) a = .inr (ci, (mm_fl (mm_ft ci) 0 (M.2.1 a) (M.2.2.1 a)).set k (mm_val (mm_i v))) := by
        rw [mm_ce_obj (M := mm_sI M a k v) (k := ci) (n := 0) hka hci]
        show _ = Sum.inr (ci, (mm_fl (mm_ft ci) 0 (M.2.1 a) (M.2.2.1 a)).set k (Value.int v))
        rw [mm_fl_I hft]
        show Sum.inr (ci, mm_fl (mm_ft ci) 0 (mm_u M.2.1 a k v a) (M.2.2.1 a)) = _
        rw [mm_u_at]
      have hne : ∀ b, b ≠ a → mm_ce cy (mm_sI M a k v) b = mm_ce cy M b := fun b hb => by
        refine mm_ce_ne rfl ?_ ?_ rfl
        · exact mm_u_ne _ _ _ hb
        · rfl
      refine mm_putW (v := mm_val (mm_i v)) hx hb hts hown hv F (fun z => ⟨hnm.trans (hfin z).1, (hfin z).2⟩) hat (mm_fl_len _ _ _ _) (fun ty h0 _ _ => by rw [h0 rfl]; exact ⟨rfl, rfl⟩) d (fun H1 j e1 e2 e3 => ?_)
      obtain ⟨b1, b2, b3, b4⟩ := mm_step_w (M1 := mm_sI M a k v) (j := j) a1 a2 a3 a4 hka (by omega) rfl rfl rfl hne (by rw [hce]; exact e1) e2 e3
      exact kk H1 _ ls b1 b2 b3 b4 hl
theorem xr_putZ (q : Nat) (C : mm_ok g cc own ret nm nL fr lo mc ms) {idx ci k : Nat} {fin : Bool} {r : Option Nat} {v : Int32} (F : mm_F own idx ci k fin 2) (hfin : fin = true → nm = "<init>" ∧ mm_own own ci k) (hf : mm_pZ M r ci k v = some M1) (d : decode cc pc = .ok (.putfield idx, 3)) (hq : pc + 3 = q) (kk : mm_X g cells slots M1 q lv st) : mm_X g cells slots M pc lv (mm_i v :: mm_r r :: st) := by
  subst hq
  obtain ⟨p, l, e, R, s, m, args, below, meth, c, G, cy, M0, nL2, Q⟩ := g
  obtain ⟨hx, hb, hml, hnl, hown, hts, hv, hlk, hr, hnm, hsz, hR⟩ := C
  cases r with
  | none => cases hf
  | some a =>
    unfold mm_pZ at hf
    simp only at hf
    split at hf
    case isFalse => cases hf
    case isTrue hk =>
      have hvv := (Option.some.inj hf).symm
      subst hvv
      intro H locs ls a1 a2 a3 a4 hl
      have hci : ci < 12 := by obtain ⟨_, _, _, _, _, _, h, -⟩ := F; exact h
      have hft : (mm_ft ci)[k]? = some 0 := by obtain ⟨_, _, _, _, _, _, _, _, _, _, _, _, _, _, _, h, -⟩ := F; rw [h]; rfl
      have hka : M.1 a = some (ci, 0) := hk.1
      have hat := mm_h_at a1 hka (by omega) 0 _ rfl
      rw [mm_ce_obj hka hci] at hat
      have hce : mm_ce cy (mm_sI M a k v) a = .inr (ci, (mm_fl (mm_ft ci) 0 (M.2.1 a) (M.2.2.1 a)).set k (mm_val (mm_i v))) := by
        rw [mm_ce_obj (M := mm_sI M a k v) (k := ci) (n := 0) hka hci]
        show _ = Sum.inr (ci, (mm_fl (mm_ft ci) 0 (M.2.1 a) (M.2.2.1 a)).set k (Value.int v))
        rw [mm_fl_I hft]
        show Sum.inr (ci, mm_fl (mm_ft ci) 0 (mm_u M.2.1 a k v a) (M.2.2.1 a)) = _
        rw [mm_u_at]
      have hne : ∀ b, b ≠ a → mm_ce cy (mm_sI M a k v) b = mm_ce cy M b := fun b hb => by
        refine mm_ce_ne rfl ?_ ?_ rfl
        · exact mm_u_ne _ _ _ hb
        · rfl
      refine mm_putW (v := mm_val (mm_i v)) hx hb hts hown hv F (fun z => ⟨hnm.trans (hfin z).1, (hfin z).2⟩) hat (mm_fl_len _ _ _ _) (fun ty _ h2 _ => by rw [h2 rfl]; rcases hk.2 with z | z <;> (rw [z]; exact ⟨by decide, by decide⟩)) d (fun H1 j e1 e2 e3 => ?_)
      obtain ⟨b1, b2, b3, b4⟩ := mm_step_w (M1 := mm_sI M a k v) (j := j) a1 a2 a3 a4 hka (by omega) rfl rfl rfl hne (by rw [hce]; exact e1) e2 e3
      exact kk H1 _ ls b1 b2 b3 b4 hl
theorem xr_putR (q : Nat) (C : mm_ok g cc own ret nm nL fr lo mc ms) {idx ci k : Nat} {fin : Bool} {r : Option Nat} {v : Option Nat} (F : mm_F own idx ci k fin 1) (hfin : fin = true → nm = "<init>" ∧ mm_own own ci k) (hf : mm_pR M r ci k v = some M1) (d : decode cc pc = .ok (.putfield idx, 3)) (hq : pc + 3 = q) (kk : mm_X g cells slots M1 q lv st) : mm_X g cells slots M pc lv (mm_r v :: mm_r r :: st) := by
  subst hq
  obtain ⟨p, l, e, R, s, m, args, below, meth, c, G, cy, M0, nL2, Q⟩ := g
  obtain ⟨hx, hb, hml, hnl, hown, hts, hv, hlk, hr, hnm, hsz, hR⟩ := C
  cases r with
  | none => cases hf
  | some a =>
    unfold mm_pR at hf
    simp only at hf
    split at hf
    case isFalse => cases hf
    case isTrue hk =>
      have hvv := (Option.some.inj hf).symm
      subst hvv
      intro H locs ls a1 a2 a3 a4 hl
      have hci : ci < 12 := by obtain ⟨_, _, _, _, _, _, h, -⟩ := F; exact h
      have hft : (mm_ft ci)[k]? = some 1 := by obtain ⟨_, _, _, _, _, _, _, _, _, _, _, _, _, _, _, h, -⟩ := F; rw [h]; rfl
      have hka : M.1 a = some (ci, 0) := hk
      have hat := mm_h_at a1 hka (by omega) 0 _ rfl
      rw [mm_ce_obj hka hci] at hat
      have hce : mm_ce cy (mm_sR M a k v) a = .inr (ci, (mm_fl (mm_ft ci) 0 (M.2.1 a) (M.2.2.1 a)).set k (mm_val (mm_r v))) := by
        rw [mm_ce_obj (M := mm_sR M a k v) (k := ci) (n := 0) hka hci]
        show _ = Sum.inr (ci, (mm_fl (mm_ft ci) 0 (M.2.1 a) (M.2.2.1 a)).set k (va_rf v))
        rw [mm_fl_R hft]
        show Sum.inr (ci, mm_fl (mm_ft ci) 0 (M.2.1 a) (mm_u M.2.2.1 a k v a)) = _
        rw [mm_u_at]
      have hne : ∀ b, b ≠ a → mm_ce cy (mm_sR M a k v) b = mm_ce cy M b := fun b hb => by
        refine mm_ce_ne rfl ?_ ?_ rfl
        · rfl
        · exact mm_u_ne _ _ _ hb
      refine mm_putW (v := mm_val (mm_r v)) hx hb hts hown hv F (fun z => ⟨hnm.trans (hfin z).1, (hfin z).2⟩) hat (mm_fl_len _ _ _ _) (fun ty _ _ h1 => by rcases h1 rfl with ⟨n, z⟩ | ⟨u, z⟩ <;> (rw [z]; cases v <;> exact ⟨rfl, rfl⟩)) d (fun H1 j e1 e2 e3 => ?_)
      obtain ⟨b1, b2, b3, b4⟩ := mm_step_w (M1 := mm_sR M a k v) (j := j) a1 a2 a3 a4 hka (by omega) rfl rfl rfl hne (by rw [hce]; exact e1) e2 e3
      exact kk H1 _ ls b1 b2 b3 b4 hl
theorem xr_aldI (q : Nat) (C : mm_ok g cc own ret nm nL fr lo mc ms) {r : Option Nat} {i : Int32} {v : Int32} (hf : mm_aI M r 12 i = some v) (d : decode cc pc = .ok (.iaload, 1)) (hq : pc + 1 = q) (kk : mm_X g cells slots M q lv (mm_i v :: st)) : mm_X g cells slots M pc lv (mm_i i :: mm_r r :: st) := by
  subst hq
  obtain ⟨p, l, e, R, s, m, args, below, meth, c, G, cy, M0, nL2, Q⟩ := g
  obtain ⟨hx, hb, hml, hnl, hown, hts, hv, hlk, hr, hnm, hsz, hR⟩ := C
  cases r with
  | none => cases hf
  | some a =>
    unfold mm_aI at hf
    simp only at hf
    cases hk : mm_k M a with
    | none => rw [hk] at hf; cases hf
    | some w =>
      rw [hk] at hf
      simp only at hf
      split at hf
      case isFalse => cases hf
      case isTrue hc =>
        have hvv := (Option.some.inj hf).symm
        subst hvv
        obtain ⟨kd, n⟩ := w
        obtain ⟨rfl, hin⟩ := hc
        intro H locs ls a1 a2 a3 a4 hl
        have hat := mm_h_at a1 hk (by simp)
        rw [mm_ce_i hk] at hat
        exact va_iald hx hb hv.1 hat 0 0 rfl rfl hin d (kk H locs ls a1 a2 a3 a4 hl)
theorem xr_aldZ (q : Nat) (C : mm_ok g cc own ret nm nL fr lo mc ms) {r : Option Nat} {i : Int32} {v : Int32} (hf : mm_aI M r 14 i = some v) (d : decode cc pc = .ok (.baload, 1)) (hq : pc + 1 = q) (kk : mm_X g cells slots M q lv (mm_i v :: st)) : mm_X g cells slots M pc lv (mm_i i :: mm_r r :: st) := by
  subst hq
  obtain ⟨p, l, e, R, s, m, args, below, meth, c, G, cy, M0, nL2, Q⟩ := g
  obtain ⟨hx, hb, hml, hnl, hown, hts, hv, hlk, hr, hnm, hsz, hR⟩ := C
  cases r with
  | none => cases hf
  | some a =>
    unfold mm_aI at hf
    simp only at hf
    cases hk : mm_k M a with
    | none => rw [hk] at hf; cases hf
    | some w =>
      rw [hk] at hf
      simp only at hf
      split at hf
      case isFalse => cases hf
      case isTrue hc =>
        have hvv := (Option.some.inj hf).symm
        subst hvv
        obtain ⟨kd, n⟩ := w
        obtain ⟨rfl, hin⟩ := hc
        intro H locs ls a1 a2 a3 a4 hl
        have hat := mm_h_at a1 hk (by simp)
        rw [mm_ce_z hk] at hat
        exact va_zald hx hb hv.1 hat 0 2 rfl rfl hin d (kk H locs ls a1 a2 a3 a4 hl)
theorem xr_aldL (q : Nat) (C : mm_ok g cc own ret nm nL fr lo mc ms) {r : Option Nat} {i : Int32} {v : Int64} (hf : mm_aL M r i = some v) (d : decode cc pc = .ok (.laload, 1)) (hq : pc + 1 = q) (kk : mm_X g cells slots M q lv (mm_j v :: st)) : mm_X g cells slots M pc lv (mm_i i :: mm_r r :: st) := by
  subst hq
  obtain ⟨p, l, e, R, s, m, args, below, meth, c, G, cy, M0, nL2, Q⟩ := g
  obtain ⟨hx, hb, hml, hnl, hown, hts, hv, hlk, hr, hnm, hsz, hR⟩ := C
  cases r with
  | none => cases hf
  | some a =>
    unfold mm_aL at hf
    simp only at hf
    cases hk : mm_k M a with
    | none => rw [hk] at hf; cases hf
    | some w =>
      rw [hk] at hf
      simp only at hf
      split at hf
      case isFalse => cases hf
      case isTrue hc =>
        have hvv := (Option.some.inj hf).symm
        subst hvv
        obtain ⟨kd, n⟩ := w
        obtain ⟨rfl, hin⟩ := hc
        intro H locs ls a1 a2 a3 a4 hl
        have hat := mm_h_at a1 hk (by simp)
        rw [mm_ce_l hk] at hat
        exact va_lald hx hb hv.1 hat 0 1 rfl rfl hin d (kk H locs ls a1 a2 a3 a4 hl)
theorem xr_aldR (q : Nat) (C : mm_ok g cc own ret nm nL fr lo mc ms) {r : Option Nat} {i : Int32} {v : Option Nat} (kd : Nat) (hkd : 15 ≤ kd ∧ kd ≤ 17) (hf : mm_aR M r kd i = some v) (d : decode cc pc = .ok (.aaload, 1)) (hq : pc + 1 = q) (kk : mm_X g cells slots M q lv (mm_r v :: st)) : mm_X g cells slots M pc lv (mm_i i :: mm_r r :: st) := by
  subst hq
  obtain ⟨p, l, e, R, s, m, args, below, meth, c, G, cy, M0, nL2, Q⟩ := g
  obtain ⟨hx, hb, hml, hnl, hown, hts, hv, hlk, hr, hnm, hsz, hR⟩ := C
  cases r with
  | none => cases hf
  | some a =>
    unfold mm_aR at hf
    simp only at hf
    cases hk : mm_k M a with
    | none => rw [hk] at hf; cases hf
    | some w =>
      rw [hk] at hf
      simp only at hf
      split at hf
      case isFalse => cases hf
      case isTrue hc =>
        have hvv := (Option.some.inj hf).symm
        subst hvv
        obtain ⟨k2, n⟩ := w
        obtain ⟨rfl, hin⟩ := hc
        intro H locs ls a1 a2 a3 a4 hl
        have hat := mm_h_at a1 hk (by omega)
        rw [mm_ce_q hk hkd.1] at hat
        rcases (show k2 = 15 ∨ k2 = 16 ∨ k2 = 17 by omega) with rfl | rfl | rfl
        · exact va_aldq (C := "LessonCards$Learner") hx hb hv.1 hat 0 3 rfl rfl hin d (kk H locs ls a1 a2 a3 a4 hl)
        · exact va_aldq (C := "LessonCards$Memory") hx hb hv.1 hat 0 4 rfl rfl hin d (kk H locs ls a1 a2 a3 a4 hl)
        · exact va_aldq (C := "java/lang/Object") hx hb hv.1 hat 0 5 rfl rfl hin d (kk H locs ls a1 a2 a3 a4 hl)
theorem xr_astI (q : Nat) (C : mm_ok g cc own ret nm nL fr lo mc ms) {r : Option Nat} {i : Int32} {v : Int32} (hf : mm_tI M r i v = some M1) (d : decode cc pc = .ok (.iastore, 1)) (hq : pc + 1 = q) (kk : mm_X g cells slots M1 q lv st) : mm_X g cells slots M pc lv (mm_i v :: mm_i i :: mm_r r :: st) := by
  subst hq
  obtain ⟨p, l, e, R, s, m, args, below, meth, c, G, cy, M0, nL2, Q⟩ := g
  obtain ⟨hx, hb, hml, hnl, hown, hts, hv, hlk, hr, hnm, hsz, hR⟩ := C
  cases r with
  | none => cases hf
  | some a =>
    unfold mm_tI at hf
    simp only at hf
    cases hk : mm_k M a with
    | none => rw [hk] at hf; cases hf
    | some w =>
      rw [hk] at hf
      simp only at hf
      split at hf
      case isFalse => cases hf
      case isTrue hc =>
        have hvv := (Option.some.inj hf).symm
        subst hvv
        obtain ⟨kd, n⟩ := w
        obtain ⟨rfl, hin⟩ := hc
        intro H locs ls a1 a2 a3 a4 hl
        have hat := mm_h_at a1 hk (by simp)
        rw [mm_ce_i hk] at hat
        refine W.iast hx hb (hat 0 _ rfl) ((hv.1.2 0 _ rfl).1 n (fun j => .int (M.2.1 a j))) (fun z => by cases z) (by show ¬ (i < 0 ∨ (arrV _ _ _).slots.size ≤ _); rw [arrV_size]; exact hin) rfl rfl d fun H1 e1 e2 e3 => ?_
        have hce : mm_ce cy (mm_sI M a i.toNatClampNeg v) a = .inl (cy 12, n, .inl (fun j => if j = i.toNatClampNeg then v else M.2.1 a j)) := by
          rw [mm_ce_i (M := mm_sI M a i.toNatClampNeg v) hk]
          show Sum.inl (cy 12, n, Sum.inl (mm_u M.2.1 a i.toNatClampNeg v a)) = _
          rw [mm_u_at]
        have hne : ∀ b, b ≠ a → mm_ce cy (mm_sI M a i.toNatClampNeg v) b = mm_ce cy M b := fun b hb => by
          refine mm_ce_ne rfl ?_ rfl ?_
          · exact mm_u_ne _ _ _ hb
          · rfl
        obtain ⟨b1, b2, b3, b4⟩ := mm_step_w (M1 := mm_sI M a i.toNatClampNeg v) (j := i.toNatClampNeg) a1 a2 a3 a4 hk (by simp) rfl rfl rfl hne (by
          rw [hce]
          show H1[a]? = some (vp_cell _ _)
          skip
          skip
          rw [e1, vp_cell_i, vp_cell_i, arrV_store]
          congr 2
          funext z
          by_cases hz : z = i.toNatClampNeg
          · subst hz
            simp [updV]
          · simp [updV, hz]) e2 e3
        exact kk H1 _ ls b1 b2 b3 b4 hl
theorem xr_astZ (q : Nat) (C : mm_ok g cc own ret nm nL fr lo mc ms) {r : Option Nat} {i : Int32} {v : Int32} (hf : mm_tZ M r i v = some M1) (d : decode cc pc = .ok (.bastore, 1)) (hq : pc + 1 = q) (kk : mm_X g cells slots M1 q lv st) : mm_X g cells slots M pc lv (mm_i v :: mm_i i :: mm_r r :: st) := by
  subst hq
  obtain ⟨p, l, e, R, s, m, args, below, meth, c, G, cy, M0, nL2, Q⟩ := g
  obtain ⟨hx, hb, hml, hnl, hown, hts, hv, hlk, hr, hnm, hsz, hR⟩ := C
  cases r with
  | none => cases hf
  | some a =>
    unfold mm_tZ at hf
    simp only at hf
    cases hk : mm_k M a with
    | none => rw [hk] at hf; cases hf
    | some w =>
      rw [hk] at hf
      simp only at hf
      split at hf
      case isFalse => cases hf
      case isTrue hc =>
        have hvv := (Option.some.inj hf).symm
        subst hvv
        obtain ⟨kd, n⟩ := w
        obtain ⟨rfl, hin, hbit⟩ := hc
        intro H locs ls a1 a2 a3 a4 hl
        have hat := mm_h_at a1 hk (by simp)
        rw [mm_ce_z hk] at hat
        refine W.zast hx hb (hat 0 _ rfl) ((hv.1.2 2 _ rfl).1 n (fun j => .int (M.2.1 a j))) (fun z => by cases z) (by show ¬ (i < 0 ∨ (arrV _ _ _).slots.size ≤ _); rw [arrV_size]; exact hin) rfl rfl d fun H1 e1 e2 e3 => ?_
        have hce : mm_ce cy (mm_sI M a i.toNatClampNeg v) a = .inl (cy 14, n, .inl (fun j => if j = i.toNatClampNeg then v else M.2.1 a j)) := by
          rw [mm_ce_z (M := mm_sI M a i.toNatClampNeg v) hk]
          show Sum.inl (cy 14, n, Sum.inl (mm_u M.2.1 a i.toNatClampNeg v a)) = _
          rw [mm_u_at]
        have hne : ∀ b, b ≠ a → mm_ce cy (mm_sI M a i.toNatClampNeg v) b = mm_ce cy M b := fun b hb => by
          refine mm_ce_ne rfl ?_ rfl ?_
          · exact mm_u_ne _ _ _ hb
          · rfl
        obtain ⟨b1, b2, b3, b4⟩ := mm_step_w (M1 := mm_sI M a i.toNatClampNeg v) (j := i.toNatClampNeg) a1 a2 a3 a4 hk (by simp) rfl rfl rfl hne (by
          rw [hce]
          show H1[a]? = some (vp_cell _ _)
          have hnv : narrow .boolean (Value.int v) = .int v := by rcases hbit with z | z <;> (rw [z]; decide)
          rw [hnv] at e1
          rw [e1, vp_cell_i, vp_cell_i, arrV_store]
          congr 2
          funext z
          by_cases hz : z = i.toNatClampNeg
          · subst hz
            simp [updV]
          · simp [updV, hz]) e2 e3
        exact kk H1 _ ls b1 b2 b3 b4 hl
theorem xr_astL (q : Nat) (C : mm_ok g cc own ret nm nL fr lo mc ms) {r : Option Nat} {i : Int32} {v : Int64} (hf : mm_tL M r i v = some M1) (d : decode cc pc = .ok (.lastore, 1)) (hq : pc + 1 = q) (kk : mm_X g cells slots M1 q lv st) : mm_X g cells slots M pc lv (mm_j v :: mm_i i :: mm_r r :: st) := by
  subst hq
  obtain ⟨p, l, e, R, s, m, args, below, meth, c, G, cy, M0, nL2, Q⟩ := g
  obtain ⟨hx, hb, hml, hnl, hown, hts, hv, hlk, hr, hnm, hsz, hR⟩ := C
  cases r with
  | none => cases hf
  | some a =>
    unfold mm_tL at hf
    simp only at hf
    cases hk : mm_k M a with
    | none => rw [hk] at hf; cases hf
    | some w =>
      rw [hk] at hf
      simp only at hf
      split at hf
      case isFalse => cases hf
      case isTrue hc =>
        have hvv := (Option.some.inj hf).symm
        subst hvv
        obtain ⟨kd, n⟩ := w
        obtain ⟨rfl, hin⟩ := hc
        intro H locs ls a1 a2 a3 a4 hl
        have hat := mm_h_at a1 hk (by simp)
        rw [mm_ce_l hk] at hat
        refine W.last hx hb (hat 0 _ rfl) ((hv.1.2 1 _ rfl).1 n (fun j => .long (M.2.2.2.1 a j))) (fun z => by cases z) (by show ¬ (i < 0 ∨ (arrV _ _ _).slots.size ≤ _); rw [arrV_size]; exact hin) rfl rfl d fun H1 e1 e2 e3 => ?_
        have hce : mm_ce cy (mm_sL M a i.toNatClampNeg v) a = .inl (cy 13, n, .inr <| .inl (fun j => if j = i.toNatClampNeg then v else M.2.2.2.1 a j)) := by
          rw [mm_ce_l (M := mm_sL M a i.toNatClampNeg v) hk]
          show Sum.inl (cy 13, n, Sum.inr <| Sum.inl (mm_u M.2.2.2.1 a i.toNatClampNeg v a)) = _
          rw [mm_u_at]
        have hne : ∀ b, b ≠ a → mm_ce cy (mm_sL M a i.toNatClampNeg v) b = mm_ce cy M b := fun b hb => by
          refine mm_ce_ne rfl ?_ rfl ?_
          · rfl
          · exact mm_u_ne _ _ _ hb
        obtain ⟨b1, b2, b3, b4⟩ := mm_step_w (M1 := mm_sL M a i.toNatClampNeg v) (j := i.toNatClampNeg) a1 a2 a3 a4 hk (by simp) rfl rfl rfl hne (by
          rw [hce]
          show H1[a]? = some (vp_cell _ _)
          skip
          skip
          rw [e1, vp_cell_l, vp_cell_l, arrV_store]
          congr 2
          funext z
          by_cases hz : z = i.toNatClampNeg
          · subst hz
            simp [updV]
          · simp [updV, hz]) e2 e3
        exact kk H1 _ ls b1 b2 b3 b4 hl
theorem mm_wq {G : va_G} {cy : Nat → ClassId} {a k n i : Nat} {v : Option Nat} {H1 : Heap} (hk : mm_k M a = some (k, n)) (hkd : 15 ≤ k) (e1 : H1[a]? = some ((vp_cell (cy k) (n, .inr (.inr (.inr (.inr (M.2.2.1 a)))))).setSlot i (va_rf v))) : va_at G vwCl (a, mm_ce cy (mm_sR M a i v) a) H1 := by
  rw [mm_ce_q (M := mm_sR M a i v) hk hkd]
  show H1[a]? = some (vp_cell (cy k) (n, .inr (.inr (.inr (.inr (mm_u M.2.2.1 a i v a))))))
  rw [mm_u_at, e1, vp_cell_q, vp_cell_q, arrV_store]
  congr 2
  funext z
  by_cases hz : z = i
  · subst hz
    simp [updV]
  · simp [updV, hz]
theorem mm_neR {cy : Nat → ClassId} {a i : Nat} {v : Option Nat} : ∀ b, b ≠ a → mm_ce cy (mm_sR M a i v) b = mm_ce cy M b := fun b hb => mm_ce_ne rfl rfl (mm_u_ne _ _ _ hb) rfl
theorem mm_tyk {cy : Nat → ClassId} {k : Nat} (h : k = 15 ∨ k = 16 ∨ k = 17) : ∃ C, (mm_tys cy)[k - 12]? = some (cy k, .object C) ∧ ((k = 15 ∧ C = "LessonCards$Learner") ∨ (k = 16 ∧ C = "LessonCards$Memory") ∨ (k = 17 ∧ C = "java/lang/Object")) := by
  rcases h with rfl | rfl | rfl
  · exact ⟨_, rfl, Or.inl ⟨rfl, rfl⟩⟩
  · exact ⟨_, rfl, Or.inr (Or.inl ⟨rfl, rfl⟩)⟩
  · exact ⟨_, rfl, Or.inr (Or.inr ⟨rfl, rfl⟩)⟩
/-- an object of an own class may stand where an Object may -/
theorem mm_castO : ∀ ci, ci < 12 → ∀ q, vwCl[ci]? = some q → Cond.castable q.1 "java/lang/Object" ∈ mm_nt := by
  intro ci hci q hq
  have hall : ∀ ci, ci < 12 → (vwCl[ci]?.map (fun q => (lw_tbl.contains (Cond.castable q.1 "java/lang/Object")))) = some true := by decide +kernel
  have h := hall ci hci
  rw [hq] at h
  exact List.mem_filter.mpr ⟨by simpa using h, rfl⟩
theorem xr_astR (q : Nat) (C : mm_ok g cc own ret nm nL fr lo mc ms) {r : Option Nat} {i : Int32} {v : Option Nat} (kd : Nat) (hkd : 15 ≤ kd ∧ kd ≤ 17) (hf : mm_tR M r kd i v = some M1) (d : decode cc pc = .ok (.aastore, 1)) (hq : pc + 1 = q) (kk : mm_X g cells slots M1 q lv st) : mm_X g cells slots M pc lv (mm_r v :: mm_i i :: mm_r r :: st) := by
  subst hq
  obtain ⟨p, l, e, R, s, m, args, below, meth, c, G, cy, M0, nL2, Q⟩ := g
  obtain ⟨hx, hb, hml, hnl, hown, hts, hv, hlk, hr, hnm, hsz, hR⟩ := C
  cases r with
  | none => cases hf
  | some a =>
    unfold mm_tR at hf
    simp only at hf
    cases hk : mm_k M a with
    | none => rw [hk] at hf; cases hf
    | some w =>
      rw [hk] at hf
      simp only at hf
      obtain ⟨k2, n⟩ := w
      cases v with
      | none =>
        simp only at hf
        split at hf
        case isFalse => cases hf
        case isTrue hc =>
          have hvv := (Option.some.inj hf).symm
          subst hvv
          obtain ⟨rfl, hin⟩ := hc
          obtain ⟨C, ht, -⟩ := mm_tyk (cy := cy) (k := k2) (by omega)
          intro H locs ls a1 a2 a3 a4 hl
          have hat := mm_h_at a1 hk (by omega)
          rw [mm_ce_q hk hkd.1] at hat
          refine va_WaastN (C := C) hx hb (hat 0 _ rfl) ((hv.1.2 _ _ ht).1 n (fun j => va_rf (M.2.2.1 a j))) (fun h => by cases h) (by show ¬ (i < 0 ∨ (arrV _ _ _).slots.size ≤ _); rw [arrV_size]; exact hin) rfl rfl d fun H1 e1 e2 e3 => ?_
          obtain ⟨b1, b2, b3, b4⟩ := mm_step_w (M1 := mm_sR M a i.toNatClampNeg none) (j := i.toNatClampNeg) a1 a2 a3 a4 hk (by omega) rfl rfl rfl mm_neR (mm_wq hk hkd.1 e1) e2 e3
          exact kk H1 _ ls b1 b2 b3 b4 hl
      | some b =>
        simp only at hf
        cases hkb : mm_k M b with
        | none => rw [hkb] at hf; cases hf
        | some w2 =>
          rw [hkb] at hf
          simp only at hf
          split at hf
          case isFalse => cases hf
          case isTrue hc =>
            have hvv := (Option.some.inj hf).symm
            subst hvv
            obtain ⟨k3, n3⟩ := w2
            obtain ⟨⟨rfl, hin⟩, hk3, hmay⟩ := hc
            simp only at hk3 hmay hin hkd
            obtain ⟨C, ht, hC⟩ := mm_tyk (cy := cy) (k := k2) (by omega)
            intro H locs ls a1 a2 a3 a4 hl
            have hat := mm_h_at a1 hk (by omega)
            rw [mm_ce_q hk hkd.1] at hat
            have hatb := mm_h_at a1 hkb (by omega) 0 _ rfl
            rw [mm_ce_obj hkb hk3] at hatb
            obtain ⟨rr, hr1, cellV, g1, g2, g3, -⟩ := hatb
            have hcls := (hv.1.1 k3 rr hr1).2
            obtain ⟨kA, comp, k1, k2', k3', -⟩ := (hv.1.2 _ _ ht).2
            obtain ⟨kE, hkE, -⟩ := Vm.findClass_spec k3'
            obtain ⟨kC, hkC, -⟩ := hcls.2
            have hasg : s.vm.assignable (G.1 k3) comp = true := by
              have hz := mm_castO k3 hk3 rr hr1
              rcases hC with ⟨h15, hC⟩ | ⟨h16, hC⟩ | ⟨h17, hC⟩
              · have h7 : k3 = 7 := by omega
                subst h7
                cases hr1
                subst hC
                have := Option.some.inj (hcls.1.symm.trans k3')
                rw [← this]
                exact va_assign hcls
              · have h9 : k3 = 9 := by omega
                subst h9
                cases hr1
                subst hC
                have := Option.some.inj (hcls.1.symm.trans k3')
                rw [← this]
                exact va_assign hcls
              · subst hC
                obtain ⟨c0, t1, f1, f2, f3⟩ := Cond.castable_spec (va_Nw.use (A := args) rfl (hv.2.1 _ hz))
                cases hcls.1.symm.trans f1
                cases k3'.symm.trans f2
                exact f3
            refine W.aast hx hb (hat 0 _ rfl) (fun q h => by cases h) (fun h => by cases h) k1 k2' rfl hkE ⟨fun z => hin (Or.inl z), by show _ < (arrV _ _ _).slots.size; rw [arrV_size]; exact Nat.not_le.mp fun z => hin (Or.inr z)⟩ g1 (fun q h => by rw [g3] at h; cases h) (by rw [g2]; exact hkC) (by rw [g2]; exact hasg) rfl rfl d fun H1 e1 e2 e3 => ?_
            obtain ⟨b1, b2, b3, b4⟩ := mm_step_w (M1 := mm_sR M a i.toNatClampNeg (some b)) (j := i.toNatClampNeg) a1 a2 a3 a4 hk (by omega) rfl rfl rfl mm_neR (mm_wq (v := some b) hk hkd.1 e1) e2 e3
            exact kk H1 _ ls b1 b2 b3 b4 hl
end
