-- Arrays.copyOf of a list's row
def mm_cp (M : mm_M) (a b n : Nat) : mm_M := (M.1, M.2.1, fun c j => if c = b ∧ j < n then M.2.2.1 a j else M.2.2.1 c j, M.2.2.2)
/-- the first n of the array a are no references, or objects of ours -/
def mm_el (M : mm_M) (a n : Nat) : Prop := ∀ j, j < n → ∀ y, mm_R M a j = some y → ∃ k, mm_k M y = some (k, 0) ∧ k < 12
noncomputable def f_J7_copyOf_1904c (M : mm_M) (v0 : Option Nat) (v1 : Int32) : Option (Option Nat × mm_M) := match v0 with
  | none => none
  | some a => match mm_al M (some a) 17 with
    | none => none
    | some n => @ite _ (n ≤ 1000 ∧ ¬ v1 < 0 ∧ v1.toNatClampNeg ≤ 1000 ∧ n ≤ v1.toNatClampNeg ∧ mm_el M a n) (Classical.propDecidable _) (some (some (mm_n M), mm_cp (mm_nw M (17, v1.toNatClampNeg)) a (mm_n M) n)) none
section
variable {g : mm_c} {cc : ByteArray} {own nm : String} {ret : Option FieldType} {nL fr lo mc ms cells slots : Nat} {M M1 : mm_M} {pc : Nat} {lv : List (Nat × mm_V)} {st : List mm_V}
theorem xr_getC (q : Nat) (C : mm_ok g cc own ret nm nL fr lo mc ms) {idx a n : Nat} (hk : mm_k M a = some (17, n)) (w1 : Cond.methodLink own idx ⟨"java/lang/Object", "getClass", "()Ljava/lang/Class;"⟩ ∈ mm_gt) (w2 : Cond.declares ⟨"java/lang/Object", "getClass", "()Ljava/lang/Class;"⟩ ∈ mm_nt) (w3 : Cond.selects "[Ljava/lang/Object;" ⟨"java/lang/Object", "getClass", "()Ljava/lang/Class;"⟩ ⟨"java/lang/Object", "getClass", "()Ljava/lang/Class;"⟩ ∈ mm_gt) (w4 : Cond.instanceMethod ⟨"java/lang/Object", "getClass", "()Ljava/lang/Class;"⟩ ∈ mm_gt) (w5 : Cond.native ⟨"java/lang/Object", "getClass", "()Ljava/lang/Class;"⟩ ∈ mm_gt)
    (hroom : 1 ≤ fr ∧ (st.map mm_cat).sum + 14 ≤ lo) (d : decode cc pc = .ok (.invokevirtual idx, 3)) (hq : pc + 3 = q) (kk : mm_X g cells slots M q lv (mm_r (some (mm_gcy g 30)) :: st)) : mm_X g cells slots M pc lv (mm_r (some a) :: st) := by
  subst hq
  obtain ⟨p, l, e, R, s, m, args, below, meth, c, G, cy, M0, nL2, Q⟩ := g
  obtain ⟨hx, hb, hml, hnl, hown, hts, hv, hlk, hr, hnm, hsz, hR⟩ := C
  subst hR
  subst hnl
  intro H locs ls a1 a2 a3 a4 hl
  have hat := mm_h_at a1 hk (by omega)
  rw [mm_ce_q hk (by omega)] at hat
  have hnmO := va_nmO (hv.1.2 5 _ rfl).2 (nm := "[Ljava/lang/Object;") (by decide +kernel)
  exact va_getC (rest := mm_st st) hx hb (by rw [hml]; exact hl.1.symm) hown (hts _ w1) (va_Nw.use rfl (hv.2.1 _ w2)) (hts _ w3) (hts _ w4) (hts _ w5) hv.2.2.2.2.2 ⟨_, hat 0 _ rfl, rfl, hnmO⟩ hroom.1 (by rw [mm_st_cat]; exact hroom.2) d (kk H locs ls a1 a2 a3 a4 hl)
theorem xr_ldcM (q : Nat) (C : mm_ok g cc own ret nm nL fr lo mc ms) {idx : Nat} (w1 : Cond.classLink own idx "[Ljava/lang/Object;" ∈ mm_gt) (d : decode cc pc = .ok (.ldc idx, 2)) (hq : pc + 2 = q) (kk : mm_X g cells slots M q lv (mm_r (some (mm_gcy g 30)) :: st)) : mm_X g cells slots M pc lv st := by
  subst hq
  obtain ⟨p, l, e, R, s, m, args, below, meth, c, G, cy, M0, nL2, Q⟩ := g
  obtain ⟨hx, hb, hml, hnl, hown, hts, hv, hlk, hr, hnm, hsz, hR⟩ := C
  intro H locs ls a1 a2 a3 a4 hl
  exact va_ldcM hx hb hown (hts _ w1) hv.2.2.2.2.2 d (kk H locs ls a1 a2 a3 a4 hl)
/-- arraycopy from a list's row into a new one, from 0 on -/
theorem xr_acopy (q : Nat) (C : mm_ok g cc own ret nm nL fr lo mc ms) {idx a b n0 n1 n : Nat} {x : Int32} (hka : mm_k M a = some (17, n0)) (hkb : mm_k M b = some (17, n1)) (hne : b ≠ a) (hx0 : ¬ x < 0) (hxn : x.toNatClampNeg = n) (hn0 : n ≤ n0) (hn1 : n ≤ n1) (hel : mm_el M a n)
    (w1 : Cond.methodLink own idx arraycopyName ∈ mm_gt) (w2 : Cond.native arraycopyName ∈ mm_gt) (w3 : Cond.static arraycopyName ∈ mm_gt) (w4 : Cond.initialized "java/lang/System" ∈ mm_gt)
    (hroom : 1 ≤ fr ∧ (st.map mm_cat).sum + (nativeFrameWords "java/lang/System" "arraycopy" 5 + 11) ≤ lo) (d : decode cc pc = .ok (.invokestatic idx, 3)) (hq : pc + 3 = q) (kk : mm_X g cells slots (mm_cp M a b n) q lv st) : mm_X g cells slots M pc lv (mm_i x :: mm_i 0 :: mm_r (some b) :: mm_i 0 :: mm_r (some a) :: st) := by
  subst hq
  obtain ⟨p, l, e, R, s, m, args, below, meth, c, G, cy, M0, nL2, Q⟩ := g
  obtain ⟨hx, hb, hml, hnl, hown, hts, hv, hlk, hr, hnm, hsz, hR⟩ := C
  subst hR
  subst hnl
  subst hxn
  intro H locs ls a1 a2 a3 a4 hl
  have hata := mm_h_at a1 hka (by omega)
  rw [mm_ce_q hka (by omega)] at hata
  have hatb := mm_h_at a1 hkb (by omega)
  rw [mm_ce_q hkb (by omega)] at hatb
  have hc0 : H[a]? = some (vp_cell (cy 17) (n0, .inr (.inr (.inr (.inr (M.2.2.1 a)))))) := hata 0 _ rfl
  have hc1 : H[b]? = some (vp_cell (cy 17) (n1, .inr (.inr (.inr (.inr (M.2.2.1 b)))))) := hatb 0 _ rfl
  have nn : ∀ z : Int32, ¬ z < 0 → z.toInt = (z.toNatClampNeg : Int) := by
    intro z hz
    have hz0 : (0 : Int) ≤ z.toInt := by
      have := Int32.not_lt.mp hz
      simpa using Int32.le_iff_toInt_le.mp this
    show z.toInt = ((z.toInt.toNat : Nat) : Int)
    omega
  intro T hT X
  obtain ⟨-, k0, hk0, cm0, hkk0⟩ := (hv.1.2 5 _ rfl).1 n0 (fun j => va_rf (M.2.2.1 a j))
  obtain ⟨-, k1, hk1, cm1, hkk1⟩ := (hv.1.2 5 _ rfl).1 n1 (fun j => va_rf (M.2.2.1 b j))
  obtain ⟨vm', X', step⟩ := X.arraycopy hx hown (hts _ w1) (hts _ w2) (hts _ w3) (hts _ w4) (src := a) (dst := b) (cs := vp_cell (cy 17) (n0, .inr (.inr (.inr (.inr (M.2.2.1 a)))))) (cd := vp_cell (cy 17) (n1, .inr (.inr (.inr (.inr (M.2.2.1 b)))))) (srcPos := 0) (destPos := 0) (n := x) (by rw [hT]; exact hc0) (by rw [hT]; exact hc1)
    (fun _ h => by cases h) (fun _ h => by cases h) (fun h => by cases h) (fun h => by cases h) hk0 hk1 hkk0 hkk1 rfl (by decide) (by decide) hx0
    (by rw [nn x hx0]; show ¬ (Int32.toInt 0) + _ > ((arrV (cy 17) n0 (fun j => va_rf (M.2.2.1 a j))).slots.size : Int); rw [arrV_size, show Int32.toInt 0 = 0 by decide]; omega)
    (by rw [nn x hx0]; show ¬ (Int32.toInt 0) + _ > ((arrV (cy 17) n1 (fun j => va_rf (M.2.2.1 b j))).slots.size : Int); rw [arrV_size, show Int32.toInt 0 = 0 by decide]; omega)
    (fun vm₁ hal i hi => by
      have z0 : (0 : Int32).toNatClampNeg = 0 := by decide
      have ee : (vp_cell (cy 17) (n0, .inr (.inr (.inr (.inr (M.2.2.1 a)))))).slots.getD ((0 : Int32).toNatClampNeg + i) .null = va_rf (M.2.2.1 a i) := by
        show (arrV (cy 17) n0 (fun j => va_rf (M.2.2.1 a j))).slots.getD _ _ = _
        rw [z0, Nat.zero_add, Array.getD_eq_getD_getElem?, arrV_read _ _ (by omega)]
        rfl
      rw [ee]
      cases hy : M.2.2.1 a i with
      | none => exact ⟨rfl, trivial⟩
      | some y =>
        obtain ⟨ky, hky, hk12⟩ := hel i hi y hy
        have haty := mm_h_at a1 hky (by omega) 0 _ rfl
        rw [mm_ce_obj hky hk12] at haty
        obtain ⟨rr, hr1, cellV, g1, g2, g3, -⟩ := haty
        obtain ⟨hfc, kC, hkC, -⟩ := (hv.1.1 ky rr hr1).2
        obtain ⟨kA, comp, r1, r2, r3, -⟩ := (hv.1.2 5 _ rfl).2
        cases hk1.symm.trans r1
        cases hkk1.symm.trans r2
        obtain ⟨kE, hkE, -⟩ := Vm.findClass_spec r3
        obtain ⟨kC', hkC', -⟩ := hal.2.2 _ _ hkC
        obtain ⟨kE', hkE', -⟩ := hal.2.2 _ _ hkE
        refine ⟨rfl, cellV, (show T.heap[y]? = some cellV by rw [hT]; exact g1), (fun q h => by rw [h] at g3; cases g3), ⟨kC', by rw [g2]; exact hkC'⟩, ?_, ?_⟩
        · exact ⟨kE', hkE'⟩
        · show vm₁.assignable _ _ = true
          rw [hal.assignable]
          obtain ⟨c0, t1, f1, f2, f3⟩ := Cond.castable_spec (va_Nw.use (A := args) rfl (hv.2.1 _ (mm_castO ky hk12 rr hr1)))
          cases hfc.symm.trans f1
          cases r3.symm.trans f2
          rw [g2]
          exact f3)
    (g := F0 m pc ls (mm_st (mm_i x :: mm_i 0 :: mm_r (some b) :: mm_i 0 :: mm_r (some a) :: st))) rfl (by rw [hml]; exact hl.1) (rest := mm_st st) rfl (by rw [hb]; exact d) hroom.1 (by show 2 * 0 + _ + _ ≤ lo; rw [mm_st_cat]; have := hroom.2; omega)
  have z0 : (0 : Int32).toNatClampNeg = 0 := by decide
  have e1 : copied (vp_cell (cy 17) (n0, .inr (.inr (.inr (.inr (M.2.2.1 a)))))) (vp_cell (cy 17) (n1, .inr (.inr (.inr (.inr (M.2.2.1 b)))))) 0 0 x = vp_cell (cy 17) (n1, .inr (.inr (.inr (.inr (va_cpy (M.2.2.1 a) (M.2.2.1 b) 0 0 x.toNatClampNeg))))) := by
    rw [vp_cell_q, vp_cell_q, vp_cell_q]
    have h := va_copiedX (sp := (0 : Int32).toNatClampNeg) (dp := (0 : Int32).toNatClampNeg) (n := x.toNatClampNeg) (fun z => va_rf z) (arrV (cy 17) n0 (fun j => va_rf (M.2.2.1 a j))) (cy 17) (n1 := n1) (n0 := n0) (M.2.2.1 a) (M.2.2.1 b) (fun j hj => arrV_read _ _ hj) (by rw [z0, Nat.zero_add]; exact hn0)
    refine Eq.trans (show copied _ _ 0 0 x = _ from h) ?_
    rw [z0]
  rw [e1] at X' step
  have hl2 : b < H.size := (Array.getElem?_eq_some_iff.mp hc1).1
  generalize hY : vp_cell (cy 17) (n1, .inr (.inr (.inr (.inr (va_cpy (M.2.2.1 a) (M.2.2.1 b) 0 0 x.toNatClampNeg))))) = Y at X' step
  have hheap : ((T.setVm vm').setCell b Y).heap = H.setIfInBounds b Y := by rw [← hT]; rfl
  have hce : mm_ce cy (mm_cp M a b x.toNatClampNeg) b = .inl (cy 17, n1, .inr (.inr (.inr (.inr (va_cpy (M.2.2.1 a) (M.2.2.1 b) 0 0 x.toNatClampNeg))))) := by
    rw [mm_ce_q (M := mm_cp M a b x.toNatClampNeg) hkb (by omega)]
    have hF : (mm_cp M a b x.toNatClampNeg).2.2.1 b = va_cpy (M.2.2.1 a) (M.2.2.1 b) 0 0 x.toNatClampNeg := by
      funext j
      show (if b = b ∧ j < x.toNatClampNeg then M.2.2.1 a j else M.2.2.1 b j) = va_cpy (M.2.2.1 a) (M.2.2.1 b) 0 0 x.toNatClampNeg j
      unfold va_cpy
      by_cases hj : j < x.toNatClampNeg
      · rw [if_pos ⟨rfl, hj⟩, if_pos ⟨Nat.zero_le _, by omega⟩, Nat.zero_add, Nat.sub_zero]
      · rw [if_neg (fun z => hj z.2), if_neg (fun z => hj (by omega))]
    rw [hF]
  obtain ⟨b1, b2, b3, b4⟩ := mm_step_w (M1 := mm_cp M a b x.toNatClampNeg) (H1 := H.setIfInBounds b Y) (j := 0) a1 a2 a3 a4 hkb (by omega) rfl rfl rfl (fun c hc => mm_ce_ne rfl rfl (by funext j; exact if_neg (fun z => hc z.1)) rfl) (by
    rw [hce]
    show (H.setIfInBounds b Y)[b]? = some _
    rw [hY]
    simp [Array.getElem?_setIfInBounds, hl2]) (by simp) (fun q hq => by simp [Array.getElem?_setIfInBounds, Ne.symm hq])
  have hS2 : ∀ locs2 : List Loc, (∀ z ∈ locs2, mm_D M0 z.base) → va_S (mm_D M0) s.heap (H.setIfInBounds b Y) locs2 := fun locs2 h => ⟨b4.1, b4.2.1, h⟩
  obtain ⟨t, t1, t2⟩ := kk (H.setIfInBounds b Y) _ ls b1 b2 b3 (hS2 _ (fun z hz => by
    rcases List.mem_append.mp hz with h | h
    · exact a4.2.2 z h
    · obtain ⟨w, -, hw⟩ := List.mem_map.mp h
      rw [← hw]
      exact a2.2.2 b (Or.inl ⟨17, n1, hkb, by omega⟩))) hl _ hheap X'
  exact ⟨t, step t t1, t2⟩
end
/-- copyOf with the class, which is that of Object[] -/
def f_J7_copyOf3 (M : mm_M) (a : Nat) (v1 : Int32) (n : Nat) : Option Nat × mm_M := (some (mm_n M), mm_cp (mm_nw M (17, v1.toNatClampNeg)) a (mm_n M) n)
set_option maxRecDepth 20000 in
theorem w_J7_copyOf3 {g : mm_c} (C : mm_ok g cJ7_copyOf_6403c "java/util/Arrays" (some (.array (.object "java/lang/Object"))) "copyOf" 4 1 40 1 1000) {M : mm_M} {a n : Nat} {v1 : Int32} (hal : mm_k M a = some (17, n)) (hz : mm_n M ≠ a) (hn1 : n ≤ 1000) (hv0 : ¬ v1 < 0) (hv1 : v1.toNatClampNeg ≤ 1000) (hle : n ≤ v1.toNatClampNeg) (hel : mm_el (mm_nw M (17, v1.toNatClampNeg)) a n) (ko : mm_q g 1 1000 (some (mm_r (some (mm_n M)))) (mm_cp (mm_nw M (17, v1.toNatClampNeg)) a (mm_n M) n)) : mm_X g 0 0 M 0 [(0, mm_r (some a)), (1, mm_i v1), (2, mm_r (some (mm_gcy g 30)))] [] := by
  have hk2 : mm_k (mm_nw M (17, v1.toNatClampNeg)) a = some (17, n) := by rw [mm_kw, if_neg (Ne.symm hz)]; exact hal
  have hk3 : mm_k (mm_nw M (17, v1.toNatClampNeg)) (mm_n M) = some (17, v1.toNatClampNeg) := by rw [mm_kw, if_pos rfl]
  refine xr_aload_n 1 2 C dJ7_copyOf_6403c_0 rfl rfl rfl ?_
  refine xr_ldcM 3 C wd_349 dJ7_copyOf_6403c_1 rfl ?_
  refine xr_acmp_ne 13 6 C dJ7_copyOf_6403c_3 (by decide) rfl (fun hc => absurd rfl hc) (fun _ => ?_)
  refine xr_iload_n 7 1 C dJ7_copyOf_6403c_6 rfl rfl rfl ?_
  refine xr_newq 10 C (kd := 17) (lim := 1000) (M1 := mm_nw M (17, v1.toNatClampNeg)) (by decide) (by decide) wd_351 (if_pos ⟨hv0, hv1⟩) dJ7_copyOf_6403c_7 ⟨Nat.le_of_ble_eq_true rfl, Nat.le_of_ble_eq_true rfl⟩ rfl ?_
  refine xr_goto 24 C dJ7_copyOf_6403c_10 (by decide) ?_
  refine xr_astore_n 25 C dJ7_copyOf_6403c_24 rfl (by decide) rfl [(3, mm_r (some (mm_n M))), (0, mm_r (some a)), (1, mm_i v1), (2, mm_r (some (mm_gcy g 30)))] rfl ?_
  refine xr_aload_n 26 1 C dJ7_copyOf_6403c_25 rfl rfl rfl ?_
  refine xr_iconst 27 C (v := 0) dJ7_copyOf_6403c_26 (by decide) rfl ?_
  refine xr_aload_n 28 0 C dJ7_copyOf_6403c_27 rfl rfl rfl ?_
  refine xr_iconst 29 C (v := 0) dJ7_copyOf_6403c_28 (by decide) rfl ?_
  refine xr_aload_n 30 1 C dJ7_copyOf_6403c_29 rfl rfl rfl ?_
  refine xr_alen 31 C (v := nI n) (by unfold mm_ln; simp only [hk2]; rw [if_pos (by decide)]) dJ7_copyOf_6403c_30 rfl ?_
  refine xr_iload_n 32 2 C dJ7_copyOf_6403c_31 rfl rfl rfl ?_
  refine xr_mmin 35 C wd_352 wd_353 wd_59 wd_354 ⟨Nat.le_of_ble_eq_true rfl, Nat.le_of_ble_eq_true rfl, Nat.le_of_ble_eq_true rfl, Nat.le_of_ble_eq_true rfl⟩ (Nat.le_of_ble_eq_true rfl) dJ7_copyOf_6403c_32 rfl ?_
  have hv : v1 = nI v1.toNatClampNeg := by
    obtain ⟨j, hj, e⟩ := nI_of hv0
    rw [e, nI_clamp hj]
  have hmin : (if v1 < nI n then v1 else nI n) = nI n := if_neg (by rw [hv]; exact nI_nlt hle (by omega))
  rw [hmin]
  refine xr_acopy 38 C (a := a) (b := mm_n M) (n := n) hk2 hk3 hz (nI_pos (by omega)) (nI_clamp (by omega)) (Nat.le_refl _) hle hel wd_355 wd_357 wd_356 wd_61 ⟨Nat.le_of_ble_eq_true rfl, Nat.le_of_ble_eq_true rfl⟩ dJ7_copyOf_6403c_35 rfl ?_
  refine xr_aload_n 39 0 C dJ7_copyOf_6403c_38 rfl rfl rfl ?_
  exact xr_aret (Or.inr ⟨_, rfl⟩) C ko ⟨Nat.le_of_ble_eq_true rfl, Nat.le_of_ble_eq_true rfl⟩ dJ7_copyOf_6403c_39
theorem c_J7_copyOf_1904c (l : Launch) (G : va_G) (cy : Nat → ClassId) {M : mm_M} {v0 : Option Nat} {v1 : Int32} {r : Option Nat} {M1 : mm_M} (hf : f_J7_copyOf_1904c M v0 v1 = some (r, M1)) : mm_Met l yJ7_copyOf_1904c cJ7_copyOf_1904c 2 (some (.array (.object "java/lang/Object"))) 3 64 1 1000 G cy [mm_r v0, mm_i v1] M (some (mm_r r)) M1 := by
  refine mm_enter (by decide) (Nat.le_of_ble_eq_true rfl) (fun p e R s m args below meth c Q C hq => ?_)
  unfold f_J7_copyOf_1904c at hf
  cases v0 with
  | none => cases hf
  | some a =>
    simp only at hf
    cases hl : mm_al M (some a) 17 with
    | none => rw [hl] at hf; cases hf
    | some n =>
      rw [hl] at hf
      simp only at hf
      split at hf
      case isFalse => cases hf
      case isTrue hc =>
        obtain ⟨h1, h2, h3, h4, h5⟩ := hc
        have ee := Option.some.inj hf
        have e1 : some (mm_n M) = r := congrArg Prod.fst ee
        have e2 : mm_cp (mm_nw M (17, v1.toNatClampNeg)) a (mm_n M) n = M1 := congrArg Prod.snd ee
        subst e1
        subst e2
        have hk : mm_k M a = some (17, n) := by
          unfold mm_al at hl
          simp only at hl
          cases hka : mm_k M a with
          | none => rw [hka] at hl; cases hl
          | some w =>
            rw [hka] at hl
            simp only at hl
            split at hl
            case isFalse => cases hl
            case isTrue hw => rw [← hw, ← Option.some.inj hl]
        refine fun H locs ls a1 a2 a3 a4 hl2 => ?_
        have hz : mm_n M ≠ a := fun z => Nat.lt_irrefl _ (z ▸ mm_h_lt a1 hk (by omega))
        have hel : mm_el (mm_nw M (17, v1.toNatClampNeg)) a n := by
          intro j hj y hy
          rw [mm_Rw, if_neg (Ne.symm hz)] at hy
          obtain ⟨k, hk1, hk2⟩ := h5 j hj y hy
          refine ⟨k, ?_, hk2⟩
          rw [mm_kw, if_neg (fun z => Nat.lt_irrefl _ (z ▸ mm_h_lt a1 hk1 (by omega)))]
          exact hk1
        refine (show mm_X (p, l, e, R, s, m, args, below, meth, c, G, cy, M, 2, Q) 0 0 M 0 [(0, mm_r (some a)), (1, mm_i v1)] [] from ?_) H locs ls a1 a2 a3 a4 hl2
        refine xr_aload_n 1 0 C dJ7_copyOf_1904c_0 rfl rfl rfl ?_
        refine xr_iload_n 2 1 C dJ7_copyOf_1904c_1 rfl rfl rfl ?_
        refine xr_aload_n 3 0 C dJ7_copyOf_1904c_2 rfl rfl rfl ?_
        refine xr_getC 6 C hk wd_330 wn_1330 wd_1329 wd_331 wd_345 ⟨Nat.le_of_ble_eq_true rfl, Nat.le_of_ble_eq_true rfl⟩ dJ7_copyOf_1904c_3 rfl ?_
        refine xr_callT 9 C [mm_r (some a), mm_i v1, mm_r (some (cy 30))] (fr2 := 1) (lo2 := 40) (mc2 := 1) (ms2 := 1000) cm_J7_300 (mm_enter (v := some (mm_r (some (mm_n M)))) (M1 := mm_cp (mm_nw M (17, v1.toNatClampNeg)) a (mm_n M) n) (by decide) (Nat.le_of_ble_eq_true rfl) (fun p e R s m args below meth c Q C hq => w_J7_copyOf3 C hk hz h1 h2 h3 h4 hel hq)) rfl rfl ⟨⟨Nat.le_of_ble_eq_true rfl, Nat.le_of_ble_eq_true rfl⟩, Nat.le_of_ble_eq_true rfl, Nat.le_of_ble_eq_true rfl⟩ (Nat.le_of_ble_eq_true rfl) dJ7_copyOf_1904c_6 rfl ?_
        exact xr_aret (Or.inr ⟨_, rfl⟩) C hq ⟨Nat.le_of_ble_eq_true rfl, Nat.le_of_ble_eq_true rfl⟩ dJ7_copyOf_1904c_9
