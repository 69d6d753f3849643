-- what the tables say of a call
def mm_cd (y : MethodName) (b : ByteArray) (maxL : Nat) (ret : Option FieldType) (n : Nat) : Prop := Cond.code y b maxL ret ∈ mm_gt ∧ Cond.initialized y.cls ∈ mm_gt ∧ (y.cls ≠ "java/lang/invoke/MethodHandle" ∧ y.cls ≠ "java/lang/invoke/VarHandle") ∧ (parseMethodDescriptor y.desc).map (fun d => d.parameters.length) = some n
def mm_lk (own : String) (idx : Nat) (y : MethodName) : Prop := Cond.methodLink own idx y ∈ mm_gt ∨ ∃ host, Cond.methodLinkNest own idx y host ∈ mm_nt
def mm_cV (own : String) (idx ci : Nat) (y : MethodName) (b : ByteArray) (maxL : Nat) (ret : Option FieldType) (n : Nat) : Prop := mm_cd y b maxL ret n ∧ ci < 12 ∧ vwCl[ci]?.map Prod.fst = some y.cls ∧ mm_lk own idx y ∧ Cond.instanceMethod y ∈ mm_gt ∧ Cond.selects y.cls y y ∈ mm_gt
def mm_cS (own : String) (idx : Nat) (y : MethodName) (b : ByteArray) (maxL : Nat) (ret : Option FieldType) (n : Nat) : Prop := mm_cd y b maxL ret n ∧ mm_lk own idx y ∧ Cond.static y ∈ mm_gt
def mm_cI (own : String) (idx : Nat) (y : MethodName) (b : ByteArray) (maxL : Nat) (n : Nat) : Prop := mm_cd y b maxL none n ∧ mm_lk own idx y ∧ Cond.instanceMethod y ∈ mm_gt ∧ y.name = "<init>"
theorem mm_gi2 {w : Cond} (hw : w ∈ mm_gt) : GoodIn mm_gt (w :: mm_gt) := by
  intro v hv
  rcases List.mem_cons.mp hv with rfl | hv
  · exact ⟨hw, good_of_word (List.mem_filter.mp hw).2⟩
  · exact ⟨hv, good_of_word (List.mem_filter.mp hv).2⟩
section
variable {p : Program} {l : Launch} {e : Env} {R : Room} {s : State} {m : MethodId} {args : Array Value} {below : List Frame} {meth : Method} {c : Code} {H : Heap} {locs : List Loc} {cells slots : Nat} {Q : State → Prop} {G : va_G} {cy : Nat → ClassId} {M0 M M1 : mm_M} {pc : Nat} {ls : Array Slot} {st0 rest : List Value} {v : Option mm_V} {mc2 ms2 : Nat} {av : Array Value}
theorem mm_back (hr : va_Run p l e R s m args below meth c H locs cells slots mc2 ms2 (F0 m pc ls st0) rest (mm_Q G cy M v M1 av) (mm_D M)) (a1 : mm_h G cy M H) (a2 : mm_x M0 M) (a3 : mm_s (mm_D M0) M s H) (a4 : va_S (mm_D M0) s.heap H locs)
    (kk : ∀ (H1 : Heap) (locs1 : List Loc), mm_h G cy M1 H1 → mm_x M0 M1 → mm_s (mm_D M0) M1 s H1 → va_S (mm_D M0) s.heap H1 locs1 → W p l e R s m args below meth c H1 locs1 (cells + mc2) (slots + ms2) Q (F0 m (pc + 3) ls ((v.map mm_val).toList ++ rest))) : W p l e R s m args below meth c H locs cells slots Q (F0 m pc ls st0) := by
  intro T hT X
  obtain ⟨vv, st₀, t, T', L, h0, X', hL, e1, e2, ⟨⟨hv, hx1, hh1, hp1⟩, hz, hkp⟩, st⟩ := hr T hT X
  have hvv : vv = v.map mm_val := by injection hv
  subst hvv
  rw [h0] at hz hkp
  have hk2 : ∀ q : Nat, q < H.size → ¬ mm_D M0 q → T'.heap[q]? = H[q]? := fun q q1 q2 => by rw [e1]; exact hkp q q1 (fun z => q2 (a2.2.2 q z))
  have h5 := mm_s_kept a3 (H1 := T'.heap) hk2
  obtain ⟨t2, b1, b2⟩ := kk T'.heap (locs ++ L) (by rw [e1]; exact hh1) (mm_x_tr a2 hx1) ⟨hp1.1, hp1.2, by rw [hx1.2.1]; exact h5.2.2.1, by rw [hx1.2.1]; exact h5.2.2.2⟩
    ⟨Nat.le_trans a4.1 (by rw [e1]; exact hz), fun q q1 q2 => (hk2 q (Nat.lt_of_lt_of_le q1 a4.1) q2).trans (a4.2.1 q q1 q2), fun q hq => by
      rcases List.mem_append.mp hq with h | h
      · exact a4.2.2 q h
      · exact a2.2.2 _ (hL q h)⟩ T' rfl X'
  exact ⟨t2, st t2 b1, b2⟩
theorem mm_preU (hv : mm_v G cy s) (a1 : mm_h G cy M H) (a2 : mm_x M0 M) (a3 : mm_s (mm_D M0) M s H) {av : List Value} : ∀ U : State, U.heap = H → s.WarmedH U.vm → va_Pc av (mm_pre G cy M) av.toArray U := by
  intro U hU hW
  refine ⟨rfl, by rw [hU]; exact a1, mm_v_moved hW hv, ?_⟩
  rw [hU]
  exact mm_s_moved hW.alike (mm_s_narrow a3 a2.2.2)
end
section
variable {g : mm_c} {cc : ByteArray} {own nm : String} {ret : Option FieldType} {nL fr lo mc ms cells slots : Nat} {M M1 : mm_M} {pc : Nat} {lv : List (Nat × mm_V)} {st st0 : List mm_V}
variable {y : MethodName} {b : ByteArray} {maxL fr2 lo2 mc2 ms2 idx ci n : Nat} {ret2 : Option FieldType} {v : Option mm_V} {r : Option Nat} {a : Nat}
theorem mm_cat_sum (vs : List mm_V) : ((mm_st vs).map fun v => v.category).sum = (vs.map mm_cat).sum := mm_st_cat vs

theorem xr_callV (q : Nat) (C : mm_ok g cc own ret nm nL fr lo mc ms) (As : List mm_V) (cw : mm_cV own idx ci y b maxL ret2 n) (hM : ∀ (l : Launch) (G : va_G) (cy : Nat → ClassId), mm_Met l y b maxL ret2 fr2 lo2 mc2 ms2 G cy (mm_r r :: As) M v M1) (hrc : mm_rc M r ci = some ()) (hn : As.length = n) (hst : st0 = As.reverse ++ mm_r r :: st) (hroom : (fr2 + 1 ≤ fr ∧ 8 + (maxL + 11) + lo2 ≤ lo) ∧ cells + mc2 ≤ mc ∧ slots + ms2 ≤ ms) (hcat : (st.map mm_cat).sum ≤ 8) (d : decode cc pc = .ok (.invokevirtual idx, 3)) (hq : pc + 3 = q)
    (kk : mm_X g (cells + mc2) (slots + ms2) M1 q lv (v.toList ++ st)) : mm_X g cells slots M pc lv st0 := by
  subst hq
  subst hst
  obtain ⟨p, l, e, R, s, m, args, below, meth, c, G, cy, M0, nL2, Q⟩ := g
  obtain ⟨hx, hb, hml, hnl, hown, hts, hv, hlk, hr, hnm, hsz, hR⟩ := C
  subst hR
  subst hnl
  have hM2 := hM l G cy
  intro H locs ls a1 a2 a3 a4 hl
  obtain ⟨⟨w1, w2, w3, w4⟩, hci, hcl, hlink, w5, w6⟩ := cw
  cases r with
  | none => cases hrc
  | some rb =>
  unfold mm_rc at hrc
  simp only at hrc
  split at hrc
  case isFalse => cases hrc
  case isTrue hk0 =>
  have hS : CallFix p m c cc nL2 s args mm_gt own := ⟨hx, hb, hml, hown, hts⟩
  have hW : 2 * (F0 m pc ls (mm_st (As.reverse ++ mm_r (some rb) :: st))).monitorRoom + ((mm_st st).map fun v => v.category).sum ≤ 8 := by
    rw [mm_st_cat]
    exact Nat.le_trans (by simp [JFrame.monitorRoom]) hcat
  have hst : mm_st (As.reverse ++ mm_r (some rb) :: st) = (mm_st As).reverse ++ Value.ref rb :: mm_st st := by simp [mm_st, mm_val, va_rf]
  have hk := kk
  have hfin : ∀ (H1 : Heap) (locs1 : List Loc), mm_h G cy M1 H1 → mm_x M0 M1 → mm_s (mm_D M0) M1 s H1 → va_S (mm_D M0) s.heap H1 locs1 → W p l e _ s m args below meth c H1 locs1 (cells + mc2) (slots + ms2) Q (F0 m (pc + 3) ls ((v.map mm_val).toList ++ mm_st st)) := fun H1 locs1 c1 c2 c3 c4 => by
    have h9 := kk H1 locs1 ls c1 c2 c3 c4 hl
    have e9 : mm_st (v.toList ++ st) = (v.map mm_val).toList ++ mm_st st := by cases v <;> simp [mm_st]
    rw [e9] at h9
    exact h9
  have hat := mm_h_at a1 hk0 (by omega)
  rw [mm_ce_obj hk0 hci] at hat
  obtain ⟨x, hx1, hx2⟩ := Option.map_eq_some_iff.mp hcl
  have hrecv := va_recv hv.1 hat hx1 (q0 := 0) rfl
  rw [hx2] at hrecv
  have hp : PreV s H y.cls rb (va_Pc (mm_st (mm_r (some rb) :: As)) (mm_pre G cy M)) (mm_st As) := ⟨mm_pre_blind G cy M _, hrecv, mm_preU hv a1 a2 a3 (av := mm_st (mm_r (some rb) :: As))⟩
  rcases hlink with hlink | ⟨host, hlink⟩
  · exact mm_back (va_runV hS hM2 ⟨callB_of n hts (mm_gi2 w1) rfl rfl rfl (hts _ w2) (hts _ hlink) ⟨w3.1, w3.2, w4⟩ hroom.1, hts _ w5, hts _ w6⟩ hp rfl (by rw [List.length_map]; exact hn) hl.1 hst hW d hroom.2) a1 a2 a3 a4 hfin
  · exact mm_back (va_runVN hS hM2 ⟨va_cnB n hts (mm_gi2 w1) rfl rfl rfl (hv.2.1 _ hlink) (hts _ w2) ⟨w3.1, w3.2, w4⟩ hroom.1, hts _ w5, hts _ w6⟩ hp rfl (by rw [List.length_map]; exact hn) hl.1 hst hW d hroom.2) a1 a2 a3 a4 hfin
theorem xr_callS (q : Nat) (C : mm_ok g cc own ret nm nL fr lo mc ms) (As : List mm_V) (cw : mm_cS own idx y b maxL ret2 n) (hM : ∀ (l : Launch) (G : va_G) (cy : Nat → ClassId), mm_Met l y b maxL ret2 fr2 lo2 mc2 ms2 G cy As M v M1) (hn : As.length = n) (hst : st0 = As.reverse ++ st) (hroom : (fr2 + 1 ≤ fr ∧ 8 + (maxL + 11) + lo2 ≤ lo) ∧ cells + mc2 ≤ mc ∧ slots + ms2 ≤ ms) (hcat : (st.map mm_cat).sum ≤ 8) (d : decode cc pc = .ok (.invokestatic idx, 3)) (hq : pc + 3 = q)
    (kk : mm_X g (cells + mc2) (slots + ms2) M1 q lv (v.toList ++ st)) : mm_X g cells slots M pc lv st0 := by
  subst hq
  subst hst
  obtain ⟨p, l, e, R, s, m, args, below, meth, c, G, cy, M0, nL2, Q⟩ := g
  obtain ⟨hx, hb, hml, hnl, hown, hts, hv, hlk, hr, hnm, hsz, hR⟩ := C
  subst hR
  subst hnl
  have hM2 := hM l G cy
  intro H locs ls a1 a2 a3 a4 hl
  obtain ⟨⟨w1, w2, w3, w4⟩, hlink, w5⟩ := cw
  have hS : CallFix p m c cc nL2 s args mm_gt own := ⟨hx, hb, hml, hown, hts⟩
  have hW : 2 * (F0 m pc ls (mm_st (As.reverse ++ st))).monitorRoom + ((mm_st st).map fun v => v.category).sum ≤ 8 := by
    rw [mm_st_cat]
    exact Nat.le_trans (by simp [JFrame.monitorRoom]) hcat
  have hst : mm_st (As.reverse ++ st) = (mm_st As).reverse ++ mm_st st := by simp [mm_st, mm_val, va_rf]
  have hk := kk
  have hfin : ∀ (H1 : Heap) (locs1 : List Loc), mm_h G cy M1 H1 → mm_x M0 M1 → mm_s (mm_D M0) M1 s H1 → va_S (mm_D M0) s.heap H1 locs1 → W p l e _ s m args below meth c H1 locs1 (cells + mc2) (slots + ms2) Q (F0 m (pc + 3) ls ((v.map mm_val).toList ++ mm_st st)) := fun H1 locs1 c1 c2 c3 c4 => by
    have h9 := kk H1 locs1 ls c1 c2 c3 c4 hl
    have e9 : mm_st (v.toList ++ st) = (v.map mm_val).toList ++ mm_st st := by cases v <;> simp [mm_st]
    rw [e9] at h9
    exact h9
  have hp : PreS s H (va_Pc (mm_st As) (mm_pre G cy M)) (mm_st As) := ⟨mm_pre_blind G cy M _, mm_preU hv a1 a2 a3⟩
  rcases hlink with hlink | ⟨host, hlink⟩
  · exact mm_back (va_runS hS hM2 ⟨callB_of n hts (mm_gi2 w1) rfl rfl rfl (hts _ w2) (hts _ hlink) ⟨w3.1, w3.2, w4⟩ hroom.1, hts _ w5⟩ hp rfl (by rw [List.length_map]; exact hn) hl.1 hst hW d hroom.2) a1 a2 a3 a4 hfin
  · exact mm_back (va_runSN hS hM2 ⟨va_cnB n hts (mm_gi2 w1) rfl rfl rfl (hv.2.1 _ hlink) (hts _ w2) ⟨w3.1, w3.2, w4⟩ hroom.1, hts _ w5, trivial⟩ hp rfl (by rw [List.length_map]; exact hn) hl.1 hst hW d hroom.2) a1 a2 a3 a4 hfin
theorem xr_callI (q : Nat) (C : mm_ok g cc own ret nm nL fr lo mc ms) (As : List mm_V) (cw : mm_cI own idx y b maxL n) (hM : ∀ (l : Launch) (G : va_G) (cy : Nat → ClassId), mm_Met l y b maxL none fr2 lo2 mc2 ms2 G cy (mm_r (some a) :: As) M v M1) (hn : As.length = n) (hst : st0 = As.reverse ++ mm_r (some a) :: st) (hroom : (fr2 + 1 ≤ fr ∧ 8 + (maxL + 11) + lo2 ≤ lo) ∧ cells + mc2 ≤ mc ∧ slots + ms2 ≤ ms) (hcat : (st.map mm_cat).sum ≤ 8) (d : decode cc pc = .ok (.invokespecial idx, 3)) (hq : pc + 3 = q)
    (kk : mm_X g (cells + mc2) (slots + ms2) M1 q lv (v.toList ++ st)) : mm_X g cells slots M pc lv st0 := by
  subst hq
  subst hst
  obtain ⟨p, l, e, R, s, m, args, below, meth, c, G, cy, M0, nL2, Q⟩ := g
  obtain ⟨hx, hb, hml, hnl, hown, hts, hv, hlk, hr, hnm, hsz, hR⟩ := C
  subst hR
  subst hnl
  have hM2 := hM l G cy
  intro H locs ls a1 a2 a3 a4 hl
  obtain ⟨⟨w1, w2, w3, w4⟩, hlink, w5, w6⟩ := cw
  have hS : CallFix p m c cc nL2 s args mm_gt own := ⟨hx, hb, hml, hown, hts⟩
  have hW : 2 * (F0 m pc ls (mm_st (As.reverse ++ mm_r (some a) :: st))).monitorRoom + ((mm_st st).map fun v => v.category).sum ≤ 8 := by
    rw [mm_st_cat]
    exact Nat.le_trans (by simp [JFrame.monitorRoom]) hcat
  have hst : mm_st (As.reverse ++ mm_r (some a) :: st) = (mm_st As).reverse ++ Value.ref a :: mm_st st := by simp [mm_st, mm_val, va_rf]
  have hk := kk
  have hfin : ∀ (H1 : Heap) (locs1 : List Loc), mm_h G cy M1 H1 → mm_x M0 M1 → mm_s (mm_D M0) M1 s H1 → va_S (mm_D M0) s.heap H1 locs1 → W p l e _ s m args below meth c H1 locs1 (cells + mc2) (slots + ms2) Q (F0 m (pc + 3) ls ((v.map mm_val).toList ++ mm_st st)) := fun H1 locs1 c1 c2 c3 c4 => by
    have h9 := kk H1 locs1 ls c1 c2 c3 c4 hl
    have e9 : mm_st (v.toList ++ st) = (v.map mm_val).toList ++ mm_st st := by cases v <;> simp [mm_st]
    rw [e9] at h9
    exact h9
  have hp : PreS s H (va_Pc (mm_st (mm_r (some a) :: As)) (mm_pre G cy M)) (.ref a :: mm_st As) := ⟨mm_pre_blind G cy M _, mm_preU hv a1 a2 a3 (av := mm_st (mm_r (some a) :: As))⟩
  rcases hlink with hlink | ⟨host, hlink⟩
  · exact mm_back (va_runI hS hM2 ⟨callB_of n hts (mm_gi2 w1) rfl rfl rfl (hts _ w2) (hts _ hlink) ⟨w3.1, w3.2, w4⟩ hroom.1, w6, hts _ w5⟩ hp rfl (by rw [List.length_map]; exact hn) hl.1 hst hW d hroom.2) a1 a2 a3 a4 hfin
  · exact mm_back (va_runIN hS hM2 ⟨va_cnB n hts (mm_gi2 w1) rfl rfl rfl (hv.2.1 _ hlink) (hts _ w2) ⟨w3.1, w3.2, w4⟩ hroom.1, w6, hts _ w5⟩ hp rfl (by rw [List.length_map]; exact hn) hl.1 hst hW d hroom.2) a1 a2 a3 a4 hfin
theorem mm_runVW {p : Program} {l : Launch} {e : Env} {R : Room} {s : State} {m : MethodId} {args : Array Value} {below : List Frame} {meth : Method} {c : Code} {H : Heap} {locs : List Loc} {cells slots : Nat} {y : MethodName} {bytes cc : ByteArray} {maxL nL mc ms n index : Nat} {ret : Option FieldType} {ws : List Cond} {rm : Room} {Pc : Array Value → State → Prop} {Qc : Array Value → State → Outcome → State → Prop} {free : Addr → Prop} {Ts : List Cond} {own C : String} {b : Addr} {As rest : List Value} {g : JFrame}
    (S : CallFix p m c cc nL s args Ts own) (hM : Met l y ws rm Pc Qc mc ms free) (hrc : rm.cells = mc) (hrs : rm.slots = ms) (hfr : rm.frames + 1 ≤ R.frames) (hlo : 16 + (maxL + 11) + rm.locals ≤ R.locals) (hG : GoodIn Ts ws) (hcw : Cond.code y bytes maxL ret ∈ ws) (hini : (Cond.initialized y.cls).before args s = true) (hl : (Cond.methodLink own index y).before args s = true) (hy : y.cls ≠ "java/lang/invoke/MethodHandle" ∧ y.cls ≠ "java/lang/invoke/VarHandle") (hlen : ∀ sig, parseMethodDescriptor y.desc = some sig → n = sig.parameters.length) (hin : (Cond.instanceMethod y).before args s = true) (hse : (Cond.selects C y y).before args s = true) (hp : PreV s H C b Pc As)
    (hg : g.method = m) (hn : As.length = n) (hsize : g.locals.size = nL) (hstack : g.stack = As.reverse ++ .ref b :: rest) (hW : 2 * g.monitorRoom + (rest.map fun v => v.category).sum ≤ 16) (hdg : decode cc g.pc = .ok (.invokevirtual index, 3)) (hf : cells + mc ≤ R.cells ∧ slots + ms ≤ R.slots) :
    va_Run p l e R s m args below meth c H locs cells slots mc ms g rest (Qc (Value.ref b :: As).toArray) (free) := by
  obtain ⟨hx, hb, hml, ho, hts⟩ := S
  have hK : Back l R p e below s args y 3 16 (PreOf R mc ms Pc) (PostOf Qc mc ms free) := back_of (bytes := bytes) (maxL := maxL) (ret := ret) hM hp.1 hrc hrs hfr hlo (pay_in hts hG) hcw (fun a' U hW => word_at hW (Or.inl (by first | rfl | simp [Cond.onTables, Cond.keeps, Cond.steady])) hini)
  have hcode := hts _ (hG _ hcw).1
  obtain ⟨-, ⟨cellB, hcB, hoB, hclB⟩, hPc⟩ := hp
  intro T hT X
  obtain ⟨v, vm₁, ⟨U', l2, c2, s2⟩, hW₁, X', ⟨g', mk, t, L, e1, e2, hq, h1, hL, h2, h3⟩, st⟩ := callV X hx (C := C) (bytes := bytes) (maxL := maxL) (ret := ret) ho hl hin hse hcode hy hK (by rw [hT]; exact hcB) hoB hclB hg (hsize.trans hml.symm) (argsL := As) (rest := rest) (fun sig h => hn.trans (hlen sig h)) hstack hW (by rw [hb]; exact hdg)
    (fun vm₁ hW₁ => ⟨hf.1, hf.2, hPc (T.setVm vm₁) hT hW₁⟩)
  dsimp only [Pt.U, Pt.locs, Pt.cells, Pt.slots] at X' e1 e2 h1 h2 h3 st
  subst h1; subst h2; subst h3
  exact ⟨v, (T.setVm vm₁).calling g' mk (Value.ref b :: As).toArray, t, U', L, hT, X', hL, e1, e2, hq, st⟩
theorem xr_callW (q : Nat) (C : mm_ok g cc own ret nm nL fr lo mc ms) (As : List mm_V) (cw : mm_cV own idx ci y b maxL ret2 n) (hM : ∀ (l : Launch) (G : va_G) (cy : Nat → ClassId), mm_Met l y b maxL ret2 fr2 lo2 mc2 ms2 G cy (mm_r r :: As) M v M1) (hrc : mm_rc M r ci = some ()) (hlk0 : Cond.methodLink own idx y ∈ mm_gt) (hn : As.length = n) (hst : st0 = As.reverse ++ mm_r r :: st) (hroom : (fr2 + 1 ≤ fr ∧ 16 + (maxL + 11) + lo2 ≤ lo) ∧ cells + mc2 ≤ mc ∧ slots + ms2 ≤ ms) (hcat : (st.map mm_cat).sum ≤ 16) (d : decode cc pc = .ok (.invokevirtual idx, 3)) (hq : pc + 3 = q)
    (kk : mm_X g (cells + mc2) (slots + ms2) M1 q lv (v.toList ++ st)) : mm_X g cells slots M pc lv st0 := by
  subst hq
  subst hst
  obtain ⟨p, l, e, R, s, m, args, below, meth, c, G, cy, M0, nL2, Q⟩ := g
  obtain ⟨hx, hb, hml, hnl, hown, hts, hv, hlk, hr, hnm, hsz, hR⟩ := C
  subst hR
  subst hnl
  have hM2 := hM l G cy
  intro H locs ls a1 a2 a3 a4 hl
  obtain ⟨⟨w1, w2, w3, w4⟩, hci, hcl, hlink, w5, w6⟩ := cw
  cases r with
  | none => cases hrc
  | some rb =>
  unfold mm_rc at hrc
  simp only at hrc
  split at hrc
  case isFalse => cases hrc
  case isTrue hk0 =>
  have hS : CallFix p m c cc nL2 s args mm_gt own := ⟨hx, hb, hml, hown, hts⟩
  have hW : 2 * (F0 m pc ls (mm_st (As.reverse ++ mm_r (some rb) :: st))).monitorRoom + ((mm_st st).map fun v => v.category).sum ≤ 16 := by
    rw [mm_st_cat]
    exact Nat.le_trans (by simp [JFrame.monitorRoom]) hcat
  have hst : mm_st (As.reverse ++ mm_r (some rb) :: st) = (mm_st As).reverse ++ Value.ref rb :: mm_st st := by simp [mm_st, mm_val, va_rf]
  have hk := kk
  have hfin : ∀ (H1 : Heap) (locs1 : List Loc), mm_h G cy M1 H1 → mm_x M0 M1 → mm_s (mm_D M0) M1 s H1 → va_S (mm_D M0) s.heap H1 locs1 → W p l e _ s m args below meth c H1 locs1 (cells + mc2) (slots + ms2) Q (F0 m (pc + 3) ls ((v.map mm_val).toList ++ mm_st st)) := fun H1 locs1 c1 c2 c3 c4 => by
    have h9 := kk H1 locs1 ls c1 c2 c3 c4 hl
    have e9 : mm_st (v.toList ++ st) = (v.map mm_val).toList ++ mm_st st := by cases v <;> simp [mm_st]
    rw [e9] at h9
    exact h9
  have hat := mm_h_at a1 hk0 (by omega)
  rw [mm_ce_obj hk0 hci] at hat
  obtain ⟨x, hx1, hx2⟩ := Option.map_eq_some_iff.mp hcl
  have hrecv := va_recv hv.1 hat hx1 (q0 := 0) rfl
  rw [hx2] at hrecv
  have hp : PreV s H y.cls rb (va_Pc (mm_st (mm_r (some rb) :: As)) (mm_pre G cy M)) (mm_st As) := ⟨mm_pre_blind G cy M _, hrecv, mm_preU hv a1 a2 a3 (av := mm_st (mm_r (some rb) :: As))⟩
  exact mm_back (mm_runVW (maxL := maxL) hS hM2 rfl rfl hroom.1.1 hroom.1.2 (mm_gi2 w1) List.mem_cons_self (hts _ w2) (hts _ hlk0) w3 (fun sig h => by rw [h] at w4; exact (Option.some.inj w4).symm) (hts _ w5) (hts _ w6) hp rfl (by rw [List.length_map]; exact hn) hl.1 hst hW d hroom.2) a1 a2 a3 a4 hfin
theorem xr_callT (q : Nat) (C : mm_ok g cc own ret nm nL fr lo mc ms) (As : List mm_V) (cw : mm_cS own idx y b maxL ret2 n) (hM : mm_Met (mm_gl g) y b maxL ret2 fr2 lo2 mc2 ms2 (mm_gG g) (mm_gcy g) As M v M1) (hn : As.length = n) (hst : st0 = As.reverse ++ st) (hroom : (fr2 + 1 ≤ fr ∧ 8 + (maxL + 11) + lo2 ≤ lo) ∧ cells + mc2 ≤ mc ∧ slots + ms2 ≤ ms) (hcat : (st.map mm_cat).sum ≤ 8) (d : decode cc pc = .ok (.invokestatic idx, 3)) (hq : pc + 3 = q)
    (kk : mm_X g (cells + mc2) (slots + ms2) M1 q lv (v.toList ++ st)) : mm_X g cells slots M pc lv st0 := by
  subst hq
  subst hst
  obtain ⟨p, l, e, R, s, m, args, below, meth, c, G, cy, M0, nL2, Q⟩ := g
  obtain ⟨hx, hb, hml, hnl, hown, hts, hv, hlk, hr, hnm, hsz, hR⟩ := C
  subst hR
  subst hnl
  have hM2 : mm_Met l y b maxL ret2 fr2 lo2 mc2 ms2 G cy As M v M1 := hM
  intro H locs ls a1 a2 a3 a4 hl
  obtain ⟨⟨w1, w2, w3, w4⟩, hlink, w5⟩ := cw
  have hS : CallFix p m c cc nL2 s args mm_gt own := ⟨hx, hb, hml, hown, hts⟩
  have hW : 2 * (F0 m pc ls (mm_st (As.reverse ++ st))).monitorRoom + ((mm_st st).map fun v => v.category).sum ≤ 8 := by
    rw [mm_st_cat]
    exact Nat.le_trans (by simp [JFrame.monitorRoom]) hcat
  have hst : mm_st (As.reverse ++ st) = (mm_st As).reverse ++ mm_st st := by simp [mm_st, mm_val, va_rf]
  have hk := kk
  have hfin : ∀ (H1 : Heap) (locs1 : List Loc), mm_h G cy M1 H1 → mm_x M0 M1 → mm_s (mm_D M0) M1 s H1 → va_S (mm_D M0) s.heap H1 locs1 → W p l e _ s m args below meth c H1 locs1 (cells + mc2) (slots + ms2) Q (F0 m (pc + 3) ls ((v.map mm_val).toList ++ mm_st st)) := fun H1 locs1 c1 c2 c3 c4 => by
    have h9 := kk H1 locs1 ls c1 c2 c3 c4 hl
    have e9 : mm_st (v.toList ++ st) = (v.map mm_val).toList ++ mm_st st := by cases v <;> simp [mm_st]
    rw [e9] at h9
    exact h9
  have hp : PreS s H (va_Pc (mm_st As) (mm_pre G cy M)) (mm_st As) := ⟨mm_pre_blind G cy M _, mm_preU hv a1 a2 a3⟩
  rcases hlink with hlink | ⟨host, hlink⟩
  · exact mm_back (va_runS hS hM2 ⟨callB_of n hts (mm_gi2 w1) rfl rfl rfl (hts _ w2) (hts _ hlink) ⟨w3.1, w3.2, w4⟩ hroom.1, hts _ w5⟩ hp rfl (by rw [List.length_map]; exact hn) hl.1 hst hW d hroom.2) a1 a2 a3 a4 hfin
  · exact mm_back (va_runSN hS hM2 ⟨va_cnB n hts (mm_gi2 w1) rfl rfl rfl (hv.2.1 _ hlink) (hts _ w2) ⟨w3.1, w3.2, w4⟩ hroom.1, hts _ w5, trivial⟩ hp rfl (by rw [List.length_map]; exact hn) hl.1 hst hW d hroom.2) a1 a2 a3 a4 hfin
theorem xr_oinit (q : Nat) (C : mm_ok g cc own ret nm nL fr lo mc ms) (w1 : Cond.methodLink own idx Lib.objectInit ∈ mm_gt) (w2 : Cond.instanceMethod Lib.objectInit ∈ mm_gt) (w3 : Cond.code Lib.objectInit ⟨#[0xb1]⟩ 1 none ∈ mm_gt) (hroom : 1 ≤ fr ∧ 20 ≤ lo) (hcat : (st.map mm_cat).sum ≤ 8) (d : decode cc pc = .ok (.invokespecial idx, 3)) (hq : pc + 3 = q)
    (kk : mm_X g cells slots M q lv st) : mm_X g cells slots M pc lv (mm_r (some a) :: st) := by
  subst hq
  obtain ⟨p, l, e, R, s, m, args, below, meth, c, G, cy, M0, nL2, Q⟩ := g
  obtain ⟨hx, hb, hml, hnl, hown, hts, hv, hlk, hr, hnm, hsz, hR⟩ := C
  subst hR
  subst hnl
  intro H locs ls a1 a2 a3 a4 hl
  refine W.objInit (rest := mm_st st) hx hb hown (hts _ w1) (hts _ w2) (hts _ w3) rfl (by rw [hml]; exact hl.1) rfl d hroom.1 ?_ (kk H locs ls a1 a2 a3 a4 hl)
  rw [mm_st_cat]
  exact Nat.le_trans (Nat.add_le_add_right (Nat.add_le_add (Nat.le_of_eq (show 2 * (F0 m pc ls (mm_st (mm_r (some a) :: st))).monitorRoom = 0 by simp [JFrame.monitorRoom])) hcat) 12) (Nat.le_trans (by decide) hroom.2)
-- Math

theorem xr_mmax (q : Nat) (C : mm_ok g cc own ret nm nL fr lo mc ms) (w1 : Cond.methodLink own idx Lib.Math.max.name ∈ mm_gt) (w2 : Cond.static Lib.Math.max.name ∈ mm_gt) (w3 : Cond.initialized "java/lang/Math" ∈ mm_gt) (w4 : Cond.code Lib.Math.max.name Lib.Math.max.code 2 (some .int) ∈ mm_gt) {x y : Int32} (hroom : 1 ≤ fr ∧ 21 ≤ lo ∧ cells ≤ mc ∧ slots ≤ ms) (hcat : (st.map mm_cat).sum ≤ 8) (d : decode cc pc = .ok (.invokestatic idx, 3)) (hq : pc + 3 = q)
    (kk : mm_X g cells slots M q lv (mm_i (if x < y then y else x) :: st)) : mm_X g cells slots M pc lv (mm_i y :: mm_i x :: st) := by
  subst hq
  obtain ⟨p, l, e, R, s, m, args, below, meth, c, G, cy, M0, nL2, Q⟩ := g
  obtain ⟨hx, hb, hml, hnl, hown, hts, hv, hlk, hr, hnm, hsz, hR⟩ := C
  subst hR
  subst hnl
  intro H locs ls a1 a2 a3 a4 hl
  exact va_mmax (rest := mm_st st) hx hb (by rw [hml]; exact hl.1.symm) hown (hts _ w1) (hts _ w2) (hts _ w3) (hts _ w4) hroom.1 (by rw [mm_st_cat]; exact Nat.le_trans (Nat.add_le_add_right hcat 13) hroom.2.1) hroom.2.2.1 hroom.2.2.2 d (kk H locs ls a1 a2 a3 a4 hl)
theorem xr_mmin (q : Nat) (C : mm_ok g cc own ret nm nL fr lo mc ms) (w1 : Cond.methodLink own idx Lib.Math.min.name ∈ mm_gt) (w2 : Cond.static Lib.Math.min.name ∈ mm_gt) (w3 : Cond.initialized "java/lang/Math" ∈ mm_gt) (w4 : Cond.code Lib.Math.min.name Lib.Math.min.code 2 (some .int) ∈ mm_gt) {x y : Int32} (hroom : 1 ≤ fr ∧ 21 ≤ lo ∧ cells ≤ mc ∧ slots ≤ ms) (hcat : (st.map mm_cat).sum ≤ 8) (d : decode cc pc = .ok (.invokestatic idx, 3)) (hq : pc + 3 = q)
    (kk : mm_X g cells slots M q lv (mm_i (if y < x then y else x) :: st)) : mm_X g cells slots M pc lv (mm_i y :: mm_i x :: st) := by
  subst hq
  obtain ⟨p, l, e, R, s, m, args, below, meth, c, G, cy, M0, nL2, Q⟩ := g
  obtain ⟨hx, hb, hml, hnl, hown, hts, hv, hlk, hr, hnm, hsz, hR⟩ := C
  subst hR
  subst hnl
  intro H locs ls a1 a2 a3 a4 hl
  exact va_mmin (rest := mm_st st) hx hb (by rw [hml]; exact hl.1.symm) hown (hts _ w1) (hts _ w2) (hts _ w3) (hts _ w4) hroom.1 (by rw [mm_st_cat]; exact Nat.le_trans (Nat.add_le_add_right hcat 13) hroom.2.1) hroom.2.2.1 hroom.2.2.2 d (kk H locs ls a1 a2 a3 a4 hl)
theorem xr_mmaxL (q : Nat) (C : mm_ok g cc own ret nm nL fr lo mc ms) (w1 : Cond.methodLink own idx Lib.MathLoose.max_long.x ∈ mm_gt) (w2 : Cond.static Lib.MathLoose.max_long.x ∈ mm_gt) (w3 : Cond.initialized "java/lang/Math" ∈ mm_gt) (w4 : Cond.code Lib.MathLoose.max_long.x Lib.MathLoose.max_long.code 4 (some .long) ∈ mm_gt) {x y : Int64} (hroom : 1 ≤ fr ∧ 25 ≤ lo ∧ cells ≤ mc ∧ slots ≤ ms) (hcat : (st.map mm_cat).sum ≤ 8) (d : decode cc pc = .ok (.invokestatic idx, 3)) (hq : pc + 3 = q)
    (kk : mm_X g cells slots M q lv (mm_j (if y < x then x else y) :: st)) : mm_X g cells slots M pc lv (mm_j y :: mm_j x :: st) := by
  subst hq
  obtain ⟨p, l, e, R, s, m, args, below, meth, c, G, cy, M0, nL2, Q⟩ := g
  obtain ⟨hx, hb, hml, hnl, hown, hts, hv, hlk, hr, hnm, hsz, hR⟩ := C
  subst hR
  subst hnl
  intro H locs ls a1 a2 a3 a4 hl
  exact va_mmax_long (rest := mm_st st) hx hb (by rw [hml]; exact hl.1.symm) hown (hts _ w1) (hts _ w2) (hts _ w3) (hts _ w4) hroom.1 (by rw [mm_st_cat]; exact Nat.le_trans (Nat.add_le_add_right hcat 15) (Nat.le_trans (by decide) hroom.2.1)) hroom.2.2.1 hroom.2.2.2 d (kk H locs ls a1 a2 a3 a4 hl)
theorem xr_mminL (q : Nat) (C : mm_ok g cc own ret nm nL fr lo mc ms) (w1 : Cond.methodLink own idx Lib.MathLoose.min_long.x ∈ mm_gt) (w2 : Cond.static Lib.MathLoose.min_long.x ∈ mm_gt) (w3 : Cond.initialized "java/lang/Math" ∈ mm_gt) (w4 : Cond.code Lib.MathLoose.min_long.x Lib.MathLoose.min_long.code 4 (some .long) ∈ mm_gt) {x y : Int64} (hroom : 1 ≤ fr ∧ 25 ≤ lo ∧ cells ≤ mc ∧ slots ≤ ms) (hcat : (st.map mm_cat).sum ≤ 8) (d : decode cc pc = .ok (.invokestatic idx, 3)) (hq : pc + 3 = q)
    (kk : mm_X g cells slots M q lv (mm_j (if y < x then y else x) :: st)) : mm_X g cells slots M pc lv (mm_j y :: mm_j x :: st) := by
  subst hq
  obtain ⟨p, l, e, R, s, m, args, below, meth, c, G, cy, M0, nL2, Q⟩ := g
  obtain ⟨hx, hb, hml, hnl, hown, hts, hv, hlk, hr, hnm, hsz, hR⟩ := C
  subst hR
  subst hnl
  intro H locs ls a1 a2 a3 a4 hl
  exact va_mmin_long (rest := mm_st st) hx hb (by rw [hml]; exact hl.1.symm) hown (hts _ w1) (hts _ w2) (hts _ w3) (hts _ w4) hroom.1 (by rw [mm_st_cat]; exact Nat.le_trans (Nat.add_le_add_right hcat 15) (Nat.le_trans (by decide) hroom.2.1)) hroom.2.2.1 hroom.2.2.2 d (kk H locs ls a1 a2 a3 a4 hl)
end
