theorem mm_pl_at {L : List Nat} {f : Nat → va_E} {k : Nat} {q : Nat × va_E} (h : (va_pl L f)[k]? = some q) : ∃ b, L[k]? = some b ∧ q = (b, f b) := by
  simp only [va_pl, List.getElem?_map] at h
  obtain ⟨b, hb, e⟩ := Option.map_eq_some_iff.mp h
  exact ⟨b, hb, e.symm⟩
theorem mm_pl_D {A B : Nat → Prop} {L : List Nat} {f f2 : Nat → va_E} (h : va_D A (va_pl L f)) (hB : ∀ b ∈ L, B b) : va_D B (va_pl L f2) := by
  refine ⟨fun i j x y hi hj hxy => ?_, fun k q hk => ?_⟩
  · obtain ⟨b, hb, rfl⟩ := mm_pl_at hi
    obtain ⟨b2, hb2, rfl⟩ := mm_pl_at hj
    exact h.1 i j (b, f b) (b2, f b2) (by simp [va_pl, hb]) (by simp [va_pl, hb2]) hxy
  · obtain ⟨b, hb, rfl⟩ := mm_pl_at hk
    exact hB b (List.mem_of_getElem? hb)
theorem mm_wr {G : va_G} {cy : Nat → ClassId} {M M1 : mm_M} {H H1 : Heap} {a : Nat} (h : mm_h G cy M H) (hk : M1.1 = M.1) (hn : mm_n M1 = mm_n M) (hc : ∀ b, b ≠ a → mm_ce cy M1 b = mm_ce cy M b)
    (hat : va_at G vwCl (a, mm_ce cy M1 a) H1) (hz : H1.size = H.size) (ho : ∀ q, q ≠ a → H1[q]? = H[q]?) : mm_h G cy M1 H1 := by
  obtain ⟨h0, L, hL, hP, hD⟩ := h
  refine ⟨by rw [hz, h0, hn], L, by rw [hk]; exact hL, fun i q hi => ?_, mm_pl_D hD fun b hb => ?_⟩
  · obtain ⟨b, hb, rfl⟩ := mm_pl_at hi
    by_cases e : b = a
    · subst e
      exact hat
    · rw [hc b e]
      have hp : va_at G vwCl (b, mm_ce cy M b) H := hP i _ (by simp [va_pl, hb])
      exact hp.kept (ho b e)
  · obtain ⟨k, n, e, hk2⟩ := (hL b).mp hb
    exact Or.inl ⟨k, n, by rw [hk]; exact e, hk2⟩
theorem mm_step_w {G : va_G} {cy : Nat → ClassId} {M0 M M1 : mm_M} {s : State} {H H1 : Heap} {locs : List Loc} {a k n j : Nat} (h1 : mm_h G cy M H) (h2 : mm_x M0 M) (h3 : mm_s (mm_D M0) M s H) (h4 : va_S (mm_D M0) s.heap H locs) (ha : M.1 a = some (k, n)) (hk18 : k < 18)
    (hk : M1.1 = M.1) (hn : mm_n M1 = mm_n M) (hz0 : mm_z M1 = mm_z M) (hc : ∀ b, b ≠ a → mm_ce cy M1 b = mm_ce cy M b) (hat : va_at G vwCl (a, mm_ce cy M1 a) H1) (hz : H1.size = H.size) (ho : ∀ q, q ≠ a → H1[q]? = H[q]?) :
    mm_h G cy M1 H1 ∧ mm_x M0 M1 ∧ mm_s (mm_D M0) M1 s H1 ∧ va_S (mm_D M0) s.heap H1 (locs ++ [⟨a, j⟩]) := by
  have hA : mm_D M0 a := h2.2.2 a (Or.inl ⟨k, n, ha, hk18⟩)
  refine ⟨mm_wr h1 hk hn hc hat hz ho, ?_, ?_, h4.put hz ho hA⟩
  · refine ⟨by rw [hn]; exact h2.1, by rw [hz0]; exact h2.2.1, fun q hq => h2.2.2 q ?_⟩
    simpa only [mm_D, hk, hn] using hq
  · have h5 := mm_s_kept h3 (H1 := H1) (fun b _ hb => ho b (fun e => hb (e ▸ hA)))
    obtain ⟨c1, c2, c3, c4⟩ := h5
    refine ⟨by rw [hk, hz0]; exact c1, by rw [hk, hz0]; exact c2, by rw [hz0]; exact c3, by rw [hz0]; exact c4⟩
/-- a new cell -/
theorem mm_step_n {G : va_G} {cy : Nat → ClassId} {M0 M : mm_M} {s : State} {H H1 : Heap} {locs : List Loc} {kd : Nat × Nat} (h1 : mm_h G cy M H) (h2 : mm_x M0 M) (h3 : mm_s (mm_D M0) M s H) (h4 : va_S (mm_D M0) s.heap H locs) (hk18 : kd.1 < 18)
    (hat : va_at G vwCl (mm_n M, mm_ce cy (mm_nw M kd) (mm_n M)) H1) (hz : H1.size = H.size + 1) (ho : ∀ q, q < H.size → H1[q]? = H[q]?) :
    mm_h G cy (mm_nw M kd) H1 ∧ mm_x M0 (mm_nw M kd) ∧ mm_s (mm_D M0) (mm_nw M kd) s H1 ∧ va_S (mm_D M0) s.heap H1 locs := by
  have hzl := mm_s_lt h3
  obtain ⟨h0, L, hL, hP, hD⟩ := id h1
  have hnot : mm_n M ∉ L := fun e => by
    obtain ⟨k, n, e2, hk⟩ := (hL _).mp e
    exact Nat.lt_irrefl _ (mm_h_lt h1 e2 hk)
  have hce : ∀ b, b ≠ mm_n M → mm_ce cy (mm_nw M kd) b = mm_ce cy M b := fun b hb => by
    refine mm_ce_ne (if_neg hb) ?_ ?_ ?_ <;> (funext j; exact if_neg hb)
  have hx : mm_x M0 (mm_nw M kd) := mm_x_tr h2 (mm_x_w M kd)
  have hk1 : ∀ b, b ≠ mm_n M → (mm_nw M kd).1 b = M.1 b := fun b hb => if_neg hb
  have hk2 : (mm_nw M kd).1 (mm_n M) = some kd := if_pos rfl
  refine ⟨⟨by rw [hz, h0]; rfl, L ++ [mm_n M], fun a => ?_, fun i q hi => ?_, ?_⟩, hx, ?_, ⟨by rw [hz]; exact Nat.le_succ_of_le h4.1, fun q q1 q2 => (ho q (Nat.lt_of_lt_of_le q1 h4.1)).trans (h4.2.1 q q1 q2), h4.2.2⟩⟩
  · rw [List.mem_append, List.mem_singleton, hL a]
    by_cases ha : a = mm_n M
    · subst ha
      rw [hk2]
      exact ⟨fun _ => ⟨kd.1, kd.2, rfl, hk18⟩, fun _ => Or.inr rfl⟩
    · rw [hk1 a ha]
      exact ⟨fun z => z.resolve_right ha, Or.inl⟩
  · obtain ⟨b, hb, rfl⟩ := mm_pl_at hi
    by_cases e : b = mm_n M
    · subst e
      exact hat
    · have hbL : b ∈ L := by
        rcases List.mem_append.mp (List.mem_of_getElem? hb) with z | z
        · exact z
        · exact absurd (List.mem_singleton.mp z) e
      obtain ⟨j, hj⟩ := List.getElem?_of_mem hbL
      rw [hce b e]
      have hp : va_at G vwCl (b, mm_ce cy M b) H := hP j _ (by simp [va_pl, hj])
      exact hp.kept (ho b hp.lt)
  · have hDL : va_D (fun _ => True) (va_pl (L ++ [mm_n M]) (mm_ce cy (mm_nw M kd))) := by
      have h5 := va_D.push (a := mm_n M) (e := mm_ce cy (mm_nw M kd) (mm_n M)) (hD.weaken (B := fun _ => True) fun _ _ _ _ => trivial) hP h0.symm trivial
      rw [va_pl_push hnot] at h5
      exact mm_pl_D h5 fun _ _ => trivial
    refine mm_pl_D hDL fun b hb => ?_
    rcases List.mem_append.mp hb with z | z
    · obtain ⟨k, n, e, hk⟩ := (hL b).mp z
      refine Or.inl ⟨k, n, ?_, hk⟩
      rw [hk1 b (fun e2 => hnot (e2 ▸ z))]
      exact e
    · rw [List.mem_singleton.mp z]
      exact Or.inl ⟨kd.1, kd.2, hk2, hk18⟩
  · have h5 := mm_s_kept h3 (H1 := H1) (fun b hb _ => ho b hb)
    obtain ⟨c1, c2, c3, c4⟩ := h5
    have hzn : mm_z M ≠ mm_n M := by omega
    refine ⟨by show (mm_nw M kd).1 (mm_z M) = _; rw [hk1 _ hzn]; exact c1, fun a n e => ?_, c3, c4⟩
    by_cases ha : a = mm_n M
    · subst ha
      rw [hk2] at e
      have e3 : kd.1 = 18 := by rw [Option.some.inj e]
      omega
    · rw [hk1 a ha] at e
      exact c2 a n e
-- fields: what the tables say of one
def mm_own (own : String) (ci k : Nat) : Prop := ∀ q, vwCl[ci]? = some q → (q.2.1 k).1 = own
def mm_F (own : String) (idx ci k : Nat) (fin : Bool) (t : Nat) : Prop := ∃ (C : String) (T : u_T) (N : Nat) (ty : Nat → FieldType) (ref : String), vwCl[ci]? = some (C, T, N) ∧ ci < 12 ∧ k < N ∧ (mm_ft ci).length = N ∧ (∀ w ∈ u_ws C T N, w ∈ mm_gt) ∧ (∀ k, k < N → parseFieldDescriptor (T k).2.2.1 = some (ty k)) ∧ (∀ a, a < N → ∀ b, b < N → a ≠ b → (T a).2.1 ≠ (T b).2.1) ∧ (T k).2.2.2 = fin ∧
  ((T k).1 = ref ∨ Cond.sameField ref (T k).1 (T k).2.1 (T k).2.2.1 ∈ mm_gt) ∧ (Cond.fieldLink own idx ref (T k).2.1 (T k).2.2.1 ∈ mm_gt ∨ True ∧ ∃ host, Cond.fieldLinkNest own idx ref (T k).2.1 (T k).2.2.1 host ∈ mm_nt) ∧
  (mm_ft ci)[k]? = some (if t = 1 then 1 else 0) ∧ (t = 0 → ty k = .int) ∧ (t = 2 → ty k = .boolean) ∧ (t = 1 → (∃ n, ty k = .object n) ∨ ∃ u, ty k = .array u)
section
variable {p : Program} {l : Launch} {e : Env} {R : Room} {s : State} {m : MethodId} {args : Array Value} {below : List Frame} {meth : Method} {c : Code} {H : Heap} {locs : List Loc} {cells slots : Nat} {Q : State → Prop}
variable {cc : ByteArray} {pc : Nat} {ls : Array Slot} {rest : List Value} {G : va_G} {cy : Nat → ClassId} {a : Nat}
theorem mm_same {T : u_T} {k : Nat} {ref : String} (hts : ∀ w ∈ mm_gt, w.before args s = true) (h : (T k).1 = ref ∨ Cond.sameField ref (T k).1 (T k).2.1 (T k).2.2.1 ∈ mm_gt) : ∀ x, s.fieldFound? (T k).1 (T k).2.1 (T k).2.2.1 = some x → s.fieldFound? ref (T k).2.1 (T k).2.2.1 = some x := by
  intro x hx
  rcases h with h | h
  · rw [← h]; exact hx
  · exact u_same (hts _ h) x hx
theorem mm_getW {own : String} {idx ci k t : Nat} {fin : Bool} {fs : List Value} {v : Value} (hexec : p.tables.exec = Jvm.exec) (hb : c.code = cc) (hts : ∀ w ∈ mm_gt, w.before args s = true) (hown : s.vm.findClass own = some m.cls) (hv : mm_v G cy s) (F : mm_F own idx ci k fin t) (hat : va_P G vwCl [(a, .inr (ci, fs))] H) (hfs : fs[k]? = some v) (hdg : decode cc pc = .ok (.getfield idx, 3))
    (kk : W p l e R s m args below meth c H locs cells slots Q (F0 m (pc + 3) ls (v :: rest))) : W p l e R s m args below meth c H locs cells slots Q (F0 m pc ls (.ref a :: rest)) := by
  obtain ⟨C, T, N, ty, ref, hc, -, hk, -, hin, -, -, -, hsm, hlk, -⟩ := F
  rcases hlk with hlk | ⟨-, host, hlk⟩
  · exact va_get hexec hb hts hin hown hv.1 hat 0 rfl hc k hk (hts _ hlk) (mm_same hts hsm) hfs hdg kk
  · exact va_getN hexec hb hts hin hown hv.1 hat 0 rfl hc k hk (va_Nw.use rfl (hv.2.1 _ hlk)) (mm_same hts hsm) hfs hdg kk
theorem mm_putW {own : String} {idx ci k t : Nat} {fin : Bool} {fs : List Value} {v : Value} (hexec : p.tables.exec = Jvm.exec) (hb : c.code = cc) (hts : ∀ w ∈ mm_gt, w.before args s = true) (hown : s.vm.findClass own = some m.cls) (hv : mm_v G cy s) (F : mm_F own idx ci k fin t) (hfin : fin = true → meth.name = "<init>" ∧ mm_own own ci k) (hat : va_at G vwCl (a, .inr (ci, fs)) H) (hl : fs.length = (mm_ft ci).length)
    (hnf : ∀ ty : FieldType, (t = 0 → ty = .int) → (t = 2 → ty = .boolean) → (t = 1 → (∃ n, ty = .object n) ∨ ∃ u, ty = .array u) → narrow ty v = v ∧ fits ty v = true) (hdg : decode cc pc = .ok (.putfield idx, 3))
    (kk : ∀ (H1 : Heap) (j : Nat), va_at G vwCl (a, .inr (ci, fs.set k v)) H1 → H1.size = H.size → (∀ q, q ≠ a → H1[q]? = H[q]?) → W p l e R s m args below meth c H1 (locs ++ [⟨a, j⟩]) cells slots Q (F0 m (pc + 3) ls rest)) : W p l e R s m args below meth c H locs cells slots Q (F0 m pc ls (v :: .ref a :: rest)) := by
  obtain ⟨C, T, N, ty, ref, hc, -, hk, hN, hin, hty, hnm, hf, hsm, hlk, -, t0, t2, t1⟩ := F
  obtain ⟨hn, hfit⟩ := hnf (ty k) t0 t2 t1
  have hd := hty k hk
  have hl2 : k < fs.length := by rw [hl, hN]; exact hk
  have hK := hv.1
  have hap := va_apart (own := own) hts hin ty hty hnm hK hc
  obtain ⟨r, h1, cell, q1, q2, q3, q4⟩ := hat
  have hr : r = (C, T, N) := Option.some.inj (h1.symm.trans hc)
  subst hr
  obtain ⟨hS, hfc, kC, hkC, hkind⟩ := hK.1 ci _ hc
  obtain ⟨cf, kf, fi, f, hi, hsl⟩ := hS k hk
  have hlay := hts _ (hin _ (u_in_lay hk))
  unfold u_lay at hlay
  have hst := (u_facts hfc hkC (u_lays hts hin hk) hi).1
  have hgo : ∀ H' : Heap, H'[a]? = some (cell.setSlot f.slot v) → va_at G vwCl (a, .inr (ci, fs.set k v)) H' := fun H' e1 => by
    rw [hsl] at e1
    exact ⟨_, hc, t_OB.to (V := updV (vp_V fs) k v) ⟨_, e1, q2, q3, t_set q4 hap hk v⟩ (fun j _ => vp_updV_set hl2 v j)⟩
  cases fin with
  | false =>
    rw [if_neg (by rw [hf]; decide)] at hlay
    have h6 := u_store hfc hkC hkind hlay hi hd hn hfit
    rcases hlk with hlk | ⟨-, host, hlk⟩
    · exact W.putK hexec hb (f := f) ⟨hown, hts _ hlk, ⟨_, _, _, mm_same hts hsm _ hi⟩, hst⟩ (by rw [q2]; exact h6) q1 q3 (by rw [hsl]; exact k2_hasslot (q4 k hk)) rfl rfl hdg fun H' e1 e2 e3 => kk H' _ (hgo H' e1) e2 e3
    · exact va_WputK hexec hb (f := f) hown (va_Nw.use rfl (hv.2.1 _ hlk)) (mm_same hts hsm _ hi) hst (by rw [q2]; exact h6) q1 q3 (by rw [hsl]; exact k2_hasslot (q4 k hk)) rfl rfl hdg fun H' e1 e2 e3 => kk H' _ (hgo H' e1) e2 e3
  | true =>
    rw [if_pos hf] at hlay
    have hcf : m.cls = cf := by
      obtain ⟨_, _, c', _, _, _, -, -, hf', -, -, -, hown2, -⟩ := Cond.laysFinal_spec hlay
      have e1 : c' = cf := by have := hi.symm.trans hf'; simp at this; exact this.1.symm
      rw [show (T k).1 = own from (hfin rfl).2 _ hc] at hown2
      rw [← e1]; exact Option.some.inj (hown.symm.trans hown2)
    have h6 := u_fits hfc hkC hkind (Or.inr hlay) hi hd hn hfit
    rcases hlk with hlk | ⟨-, host, hlk⟩
    · exact W.putFinK hexec hb hown (hts _ hlk) (mm_same hts hsm _ hi) hst hcf (hfin rfl).1 (by rw [q2]; exact h6) q1 q3 (by rw [hsl]; exact k2_hasslot (q4 k hk)) rfl rfl hdg fun H' e1 e2 e3 => kk H' _ (hgo H' e1) e2 e3
    · refine va_Wputf hexec hb hown (va_Nw.use rfl (hv.2.1 _ hlk)) (mm_same hts hsm _ hi) hst (Or.inr ⟨hcf, (hfin rfl).1⟩) q1 (by rw [q3]; exact fun h => by cases h) (by rw [hsl]; exact k2_hasslot (q4 k hk)) h6.1 (by rw [q3, q2]; exact h6.2) rfl rfl hdg ?_
      have ha : a < H.size := (Array.getElem?_eq_some_iff.mp q1).1
      exact kk _ _ (hgo _ (by simp [Array.getElem?_setIfInBounds, ha])) (by simp) (fun q hq => by simp [Array.getElem?_setIfInBounds, Ne.symm hq])
end
