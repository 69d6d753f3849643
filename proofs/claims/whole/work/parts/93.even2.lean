theorem nI_sur (x : Int32) : ∃ k, x = nI k := ⟨x.toBitVec.toNat, Int32.toBitVec_inj.mp (BitVec.eq_of_toNat_eq (pk_tn (x.toBitVec.isLt)).symm)⟩
/-- the evening's cells -/
abbrev lc_evp (n : Nat) : Nat → Prop := fun a => n + 12 ≤ a ∧ a ≤ n + 15
section
variable {n k : Nat} {σ τ : ls_S} {B M0 M M1 : mm_M} {E P F : Nat → Nat} {Q C : Nat}
/-- the relation stands, whatever the evening's numbers are -/
theorem lc_evs (h0 : lc n σ B M0) (hd : lc_di (lc_evp n) M0 M) (h5 : mm_I M (n + 12) 4 = mm_I M0 (n + 12) 4) : ∃ τ, lc n τ B M ∧ ∀ f, f ≠ 35 → f ≠ 36 → τ f = σ f := by
  obtain ⟨i1, i2, i3, i4, i5, i6, i7, i8, i9, ia, ib, ic⟩ := id h0.2.1
  obtain ⟨τ, hτ⟩ : ∃ τ : ls_S, τ = fun f j => if f = 35 then Classical.choose (nI_sur (mm_I M (n + 14) j + 1)) else if f = 36 then Classical.choose (nI_sur (mm_I M (n + 15) j)) else σ f j := ⟨_, rfl⟩
  have e : ∀ f, f ≠ 35 → f ≠ 36 → τ f = σ f := fun f a b => by
    funext j
    rw [hτ]
    exact (if_neg a).trans (if_neg b)
  have x1 : lc_I1 n τ M := by
    unfold lc_I1
    rw [e 4 (by omega) (by omega), e 6 (by omega) (by omega), e 7 (by omega) (by omega)]
    exact lc_t1 i1 hd (by show ¬ (_ ∧ _); omega)
  have x2 : lc_I2 n τ M := by
    unfold lc_I2
    rw [e 5 (by omega) (by omega)]
    exact lc_t2 i2 hd (by show ¬ (_ ∧ _); omega)
  have x4 : lc_I4 n τ M := lc_s4 (lc_t4 i4 hd (fun p hp => by have := lc_lov hp; show ¬ (_ ∧ _); omega) (by show ¬ (_ ∧ _); omega) (by show ¬ (_ ∧ _); omega)) (by rw [e 3 (by omega) (by omega)]) (by rw [e 28 (by omega) (by omega)])
  have x5 : lc_I5 n τ M := by
    unfold lc_I5
    rw [e 8 (by omega) (by omega), e 10 (by omega) (by omega)]
    exact lc_t5 i5 hd (fun p hp => by have := lc_lov (show p < 5 by omega); show ¬ (_ ∧ _); omega)
  have x6 : lc_I6 n τ M := lc_s6 (lc_t6 i6 hd (fun p hp => by have := lc_lov (show p < 5 by omega); show ¬ (_ ∧ _); omega)) (e 9 (by omega) (by omega)) (e 10 (by omega) (by omega))
  have xb : lc_Ib n τ M := by
    unfold lc_Ib
    rw [e 39 (by omega) (by omega), e 40 (by omega) (by omega), e 41 (by omega) (by omega), e 42 (by omega) (by omega), e 43 (by omega) (by omega)]
    exact lc_tb ib hd (by show ¬ (_ ∧ _); omega)
  have xc : lc_Ic n τ M := by
    unfold lc_Ic
    rw [e 38 (by omega) (by omega), e 39 (by omega) (by omega)]
    exact lc_tc ic hd (by show ¬ (_ ∧ _); omega)
  refine ⟨τ, lc_fr h0 hd (fun a ha => ⟨by have := ha.1; omega, by have := ha.2; omega⟩) ⟨by rw [e 3 (by omega) (by omega)], e 0 (by omega) (by omega), by rw [e 28 (by omega) (by omega)], e 1 (by omega) (by omega), e 2 (by omega) (by omega), fun f a b => e f (by omega) (by omega)⟩ ⟨x1, x2, lc_t3 i3 hd (by show ¬ (_ ∧ _); omega) (by show ¬ (_ ∧ _); omega), x4, x5, x6, ⟨?_, ?_, fun _ => ⟨fun d _ => ?_, fun q _ => ?_⟩⟩, xb, xc⟩, e⟩
  · rw [e 37 (by omega) (by omega)]; exact ia.1
  · rw [e 37 (by omega) (by omega), h5]; exact ia.2.1
  · have q := Classical.choose_spec (nI_sur (mm_I M (n + 15) d))
    rw [q, hτ]
    exact congrArg nI ((if_neg (show ¬ (36 : Nat) = 35 by omega)).trans (if_pos rfl)).symm
  · have z := Classical.choose_spec (nI_sur (mm_I M (n + 14) q + 1))
    have y : τ 35 q = Classical.choose (nI_sur (mm_I M (n + 14) q + 1)) := by rw [hτ]; exact if_pos rfl
    show _ = nI (τ 35 q) - 1
    rw [y, ← z, Int32.add_sub_cancel]
/-- the evening: C places, P and F; what has no first day stands on no day -/
def lc_ev (n : Nat) (M0 M : mm_M) (E P F : Nat → Nat) (Q C : Nat) : Prop := lc_di (lc_evp n) M0 M ∧ mm_I M (n + 12) 4 = mm_I M0 (n + 12) 4 ∧ mm_I M (n + 12) 1 = nI C ∧ (∀ j, j < C → mm_I M (n + 13) j = nI (F j * 480 + P j)) ∧ ∀ q, q < Q → E q = 0 → mm_I M (n + 14) q = -1
theorem ev_k (h0 : lc n σ B M0) (hd : lc_di (lc_evp n) M0 M) (t : Nat × Nat × Nat) (ht : t ∈ lc_kt) : mm_k M (n + t.1) = some t.2 := (lc_di_k hd _).trans (lc_k h0 t ht)
theorem ev_r (h0 : lc n σ B M0) (hd : lc_di (lc_evp n) M0 M) (f o : Nat) (hf : (12, f, o) ∈ lc_rt) : mm_fR M (some (n + 12)) 5 f = some (some (n + o)) := pfR (ev_k h0 hd (12, 5, 0) (by decide)) ((lc_di_R hd _ _).trans (lc_r h0 _ hf))
theorem ev_i (hd : lc_di (lc_evp n) M0 M) {a : Nat} (ha : lc_evp n a) (j : Nat) (v : Int32) : lc_di (lc_evp n) M0 (mm_sI M a j v) := lc_di_I hd ha j v
theorem ev_div {f q : Nat} (hf : f ≤ 60) (hq : q < 480) : nI (f * 480 + q) / 480 = nI f := by
  rw [show nI (f * 480 + q) / 480 = nI ((f * 480 + q) / 480) from pk_div (d := 480) (by omega) (by omega) (by omega)]; congr 1; omega
theorem ev_rem {f q : Nat} (hf : f ≤ 60) (hq : q < 480) : nI (f * 480 + q) - nI (f * 480 + q) / 480 * 480 = nI q := by
  rw [show nI (f * 480 + q) - nI (f * 480 + q) / 480 * 480 = nI ((f * 480 + q) % 480) from pk_rem (d := 480) (by omega) (by omega) (by omega)]; congr 1; omega
/-- a place put among the others -/
theorem cl_addSide (h0 : lc n σ B M0) (ev : lc_ev n M0 M E P F Q C) {q f : Nat} (hC : C < 480) (hq : q < 480) (hf : f ≤ 60) (hF : ∀ j, j < C → F j ≤ 60) (hP : ∀ j, j < C → P j < q) : ∃ M1, f_X4_addSide M (some (n + 12)) (nI q) (nI f) = some M1 ∧ lc_ev n M0 M1 E (ls_in P q (ls_ip F f C)) (ls_in F f (ls_ip F f C)) Q (C + 1) ∧ ∀ j, mm_I M1 (n + 14) j = mm_I M (n + 14) j := by
  obtain ⟨hd, h5, h2, hPF, hdy⟩ := ev
  obtain ⟨M1, hM1, hQ⟩ := pe_loop (body := fun x : mm_M × Int32 => f_X4_addSide_33 x.1 (some (n + 12)) (nI (f * 480 + q)) x.2) (x := (M, nI C))
    (fun i x => ∃ M1 a, x = (M1, nI a) ∧ a + i = C ∧ lc_di (lc_evp n) M0 M1 ∧ mm_I M1 (n + 12) 4 = mm_I M0 (n + 12) 4 ∧ mm_I M1 (n + 12) 1 = nI C ∧ (∀ j, j < a → mm_I M1 (n + 13) j = nI (F j * 480 + P j)) ∧ (∀ j, a < j → j ≤ C → mm_I M1 (n + 13) j = nI (F (j - 1) * 480 + P (j - 1))) ∧ (∀ j, mm_I M1 (n + 14) j = mm_I M (n + 14) j) ∧ ls_ip F f a = ls_ip F f C)
    (fun M1 => lc_ev n M0 M1 E (ls_in P q (ls_ip F f C)) (ls_in F f (ls_ip F f C)) Q (C + 1) ∧ ∀ j, mm_I M1 (n + 14) j = mm_I M (n + 14) j) C ⟨M, C, rfl, by omega, hd, h5, h2, hPF, fun j a b => absurd b (by omega), fun _ => rfl, rfl⟩ (by
      rintro i x hi ⟨M1, a, rfl, ha, hd1, h51, h21, hlo, hhi, hdy1, hip⟩
      have k12 := ev_k h0 hd1 (12, 5, 0) (by decide)
      have k13 := ev_k h0 hd1 (13, 12, 480) (by decide)
      have fin : ls_ip F f a = a → ∃ M2, f_X4_addSide_83 M1 (some (n + 12)) (nI (f * 480 + q)) (nI a) = some M2 ∧ lc_ev n M0 M2 E (ls_in P q (ls_ip F f C)) (ls_in F f (ls_ip F f C)) Q (C + 1) ∧ ∀ j, mm_I M2 (n + 14) j = mm_I M (n + 14) j := fun hstop => by
        rw [← hip, hstop]
        refine ⟨mm_sI (mm_sI M1 (n + 13) a (nI (f * 480 + q))) (n + 12) 1 (nI (C + 1)), iff_ (nI_pos (by omega)) (bx (ev_r h0 hd1 0 13 (by decide)) (bx (pe_ln k13 (by omega)) (iff_ (nI_ge (a := a) (b := 480) (by omega) (by omega)) (bx (ev_r h0 hd1 0 13 (by decide)) (bx (pe_tI _ k13 (show a < 480 by omega) (by omega)) (bx (pfI (show mm_k (mm_sI M1 (n + 13) a (nI (f * 480 + q))) (n + 12) = some (5, 0) from k12) (v := nI C) (by rw [mm_II, if_neg (by omega)]; exact h21)) (bx (a := mm_sI (mm_sI M1 (n + 13) a (nI (f * 480 + q))) (n + 12) 1 (nI (C + 1))) (by rw [nI_1]; exact pe_pI 1 _ k12) rfl))))))), ⟨ev_i (ev_i hd1 (a := n + 13) ⟨by omega, by omega⟩ _ _) (a := n + 12) ⟨by omega, by omega⟩ _ _, ?_, ?_, fun j hj => ?_, fun z hz he => ?_⟩, fun j => ?_⟩
        · rw [mm_II, if_neg (by omega), mm_II, if_neg (by omega)]; exact h51
        · rw [mm_II, if_pos ⟨rfl, rfl⟩]
        · rw [mm_II, if_neg (by omega), mm_II]
          rcases Nat.lt_trichotomy j a with h | h | h
          · rw [if_neg (by omega), ls_in_lt _ _ h, ls_in_lt _ _ h]; exact hlo j h
          · rw [if_pos ⟨rfl, h⟩, h, ls_in_at, ls_in_at]
          · rw [if_neg (by omega), ls_in_gt _ _ h, ls_in_gt _ _ h]; exact hhi j h (by omega)
        · rw [mm_II, if_neg (by omega), mm_II, if_neg (by omega), hdy1]; exact hdy z hz he
        · rw [mm_II, if_neg (by omega), mm_II, if_neg (by omega)]; exact hdy1 j
      cases a with
      | zero =>
        right
        obtain ⟨M2, f2, h2⟩ := fin rfl
        exact ⟨M2, ift (show nI 0 ≤ 0 by decide) (mpx f2), h2⟩
      | succ a =>
        have hla := hlo a (by omega)
        have hFa := hF a (by omega)
        have hPa := hP a (by omega)
        have es : nI (a + 1) - 1 = nI a := nI_pred a
        have rF : mm_aI M1 (some (n + 13)) 12 (nI (a + 1) - 1) = some (nI (F a * 480 + P a)) := by rw [es]; exact paI k13 (show a < 480 by omega) (by omega) hla
        have X : ∀ {z}, (if nI (F a * 480 + P a) ≤ nI (f * 480 + q) then mm_mp (f_X4_addSide_83 M1 (some (n + 12)) (nI (f * 480 + q)) (nI (a + 1))) else f_X4_addSide_61 M1 (some (n + 12)) (nI (f * 480 + q)) (nI (a + 1))) = z → f_X4_addSide_33 M1 (some (n + 12)) (nI (f * 480 + q)) (nI (a + 1)) = z := fun q => iff_ (nI_nle (by omega) (by omega)) (bx (ev_r h0 hd1 0 13 (by decide)) (bx (pe_ln k13 (by omega)) (iff_ (nI_ge (a := a + 1) (b := 480) (by omega) (by omega)) (bx (ev_r h0 hd1 0 13 (by decide)) (bx rF q)))))
        have hstep : ls_ip F f (a + 1) = if f < F a then ls_ip F f a else a + 1 := rfl
        by_cases hlt : f < F a
        · left
          rw [if_pos hlt] at hstep
          refine ⟨(mm_sI M1 (n + 13) (a + 1) (nI (F a * 480 + P a)), nI a), X (iff_ (nI_ge (show f * 480 + q < F a * 480 + P a by omega) (by omega)) (bx (ev_r h0 hd1 0 13 (by decide)) (bx (ev_r h0 hd1 0 13 (by decide)) (bx rF (bx (pe_tI _ k13 (show a + 1 < 480 by omega) (by omega)) ?_))))), ⟨_, a, rfl, by omega, ev_i hd1 (a := n + 13) ⟨by omega, by omega⟩ _ _, ?_, ?_, fun j hj => ?_, fun j h1 h2 => ?_, fun j => ?_, by rw [← hip, hstep]⟩, by omega⟩
          · show some (Sum.inl (_, nI (a + 1) + (-1))) = _
            rw [pk_m1]
          · rw [mm_II, if_neg (by omega)]; exact h51
          · rw [mm_II, if_neg (by omega)]; exact h21
          · rw [mm_II, if_neg (by omega)]; exact hlo j (by omega)
          · rw [mm_II]
            by_cases e : j = a + 1
            · rw [if_pos ⟨rfl, e⟩, e, Nat.add_sub_cancel]
            · rw [if_neg (by omega)]; exact hhi j (by omega) h2
          · rw [mm_II, if_neg (by omega)]; exact hdy1 j
        · right
          rw [if_neg hlt] at hstep
          obtain ⟨M2, f2, h2⟩ := fin hstep
          exact ⟨M2, X (ift (nI_le (show F a * 480 + P a ≤ f * 480 + q by omega) (by omega)) (mpx f2)), h2⟩)
  have es : nI f * 480 + nI q = nI (f * 480 + q) := by rw [show nI f * 480 = nI (f * 480) from pk_mul f 480, nI_add]
  refine ⟨M1, iff_ (nI_nlt (a := 60) (b := f) (by omega) (by omega)) (bx (pfI (ev_k h0 hd (12, 5, 0) (by decide)) h2) (bx (ev_r h0 hd 0 13 (by decide)) (bx (pe_ln (ev_k h0 hd (13, 12, 480) (by decide)) (by omega)) (ift (nI_lt (b := 480) hC (by omega)) (bx (pfI (ev_k h0 hd (12, 5, 0) (by decide)) h2) (show f_X4_addSide_33w M (some (n + 12)) (nI f * 480 + nI q) (nI C) = some M1 from by rw [es]; exact hM1)))))), hQ⟩
theorem cl_gather (h : lc n σ B M) (hG : ls_G k σ) {p : Nat} (hp : p < 4) : ∃ M1 M2 C P F, f_X4_gather M (some (n + 12)) (some (n + lc_lo p)) (some (n + 1)) = some M2 ∧ M2 = mm_sI M1 (n + 12) 4 1 ∧ lc_ev n M M1 (ls_ev σ p) P F 480 C ∧ ls_so (ls_ev σ p) 480 C P F := by
  have O1 := hG.1
  have h120 := O1.1
  have np : p < 5 := by omega
  have t5 := hG.2.1.2.2.2.2 p hp
  have hd0 : lc_di (lc_evp n) M (mm_sI M (n + 12) 1 0) := ev_i (lc_di_rf _ M) (a := n + 12) ⟨by omega, by omega⟩ _ _
  have k12 := lc_kev h
  obtain ⟨M2, hM2, M1, C, P, F, e2, ev, so⟩ := pe_cnt (body := fun x : mm_M × Int32 => f_X4_gather_7 x.1 (some (n + 12)) (some (n + lc_lo p)) (some (n + 1)) x.2) (x := (mm_sI M (n + 12) 1 0, 0))
    (fun q x => ∃ M1 C P F, x = (M1, nI q) ∧ lc_ev n M M1 (ls_ev σ p) P F q C ∧ ls_so (ls_ev σ p) q C P F)
    (fun M2 => ∃ M1 C P F, M2 = mm_sI M1 (n + 12) 4 1 ∧ lc_ev n M M1 (ls_ev σ p) P F 480 C ∧ ls_so (ls_ev σ p) 480 C P F) 480 ⟨_, 0, fun _ => 0, fun _ => 0, rfl, ⟨hd0, by rw [mm_II, if_neg (by omega)], by rw [mm_II, if_pos ⟨rfl, rfl⟩]; rfl, fun j hj => absurd hj (Nat.not_lt_zero j), fun q hq => absurd hq (Nat.not_lt_zero q)⟩, ⟨fun j hj => absurd hj (Nat.not_lt_zero j), fun j hj => absurd hj (Nat.not_lt_zero j), fun q hq => absurd hq (Nat.not_lt_zero q)⟩⟩ (by
      rintro q x hq ⟨M1, C, P, F, rfl, ⟨hd, h5, h2, hPF, hdy⟩, so⟩
      have k15 := ev_k h hd (14, 12, 480) (by decide)
      have hd1 := ev_i hd (a := n + 14) ⟨by omega, by omega⟩ q (-1)
      have ev1 : lc_ev n M (mm_sI M1 (n + 14) q (-1)) (ls_ev σ p) P F q C := ⟨hd1, by rw [mm_II, if_neg (by omega)]; exact h5, by rw [mm_II, if_neg (by omega)]; exact h2, fun j hj => by rw [mm_II, if_neg (by omega)]; exact hPF j hj, fun z hz he => by rw [mm_II, if_neg (by omega)]; exact hdy z hz he⟩
      have d15 : mm_I (mm_sI M1 (n + 14) q (-1)) (n + 14) q = -1 := by rw [mm_II, if_pos ⟨rfl, rfl⟩]
      have pre : ∀ {w r}, f_X6_memoryAt (mm_sI M1 (n + 14) q (-1)) (some (n + lc_lo p)) (nI q) = some w → (if w = none then f_X4_gather_63 (mm_sI M1 (n + 14) q (-1)) (some (n + 12)) (some (n + lc_lo p)) (some (n + 1)) (nI q) else f_X4_gather_35 (mm_sI M1 (n + 14) q (-1)) (some (n + 12)) (some (n + lc_lo p)) (some (n + 1)) (nI q) w) = r → f_X4_gather_7 M1 (some (n + 12)) (some (n + lc_lo p)) (some (n + 1)) (nI q) = r := fun {w r} hw z => bx (ev_r h hd 2 14 (by decide)) (bx (pe_ln k15 (by omega)) (iff_ (nI_ge (b := 480) hq (by omega)) (bx (ev_r h hd 2 14 (by decide)) (bx (pe_tI _ k15 hq (by omega)) (bx (pe_rc ((lc_di_k hd1 _).trans (lc_kla h np))) (bx hw z))))))
      obtain ⟨τ, hl, e⟩ := lc_evs h hd1 ev1.2.1
      generalize mm_sI M1 (n + 14) q (-1) = MA at *
      have O1τ : ls_O1 τ := by
        unfold ls_O1
        rw [e 0 (by omega) (by omega), e 1 (by omega) (by omega), e 2 (by omega) (by omega), e 3 (by omega) (by omega)]
        exact O1
      have hn : ∀ MB, f_X4_gather_63 MB (some (n + 12)) (some (n + lc_lo p)) (some (n + 1)) (nI q) = some (.inl (MB, nI (q + 1))) := fun MB => by
        show some (Sum.inl (MB, nI q + 1)) = _
        rw [nI_1]
      -- a place of no first day
      have no : ls_ev σ p q = 0 → ∃ M1 C P F, (MA, nI (q + 1)) = (M1, nI (q + 1)) ∧ lc_ev n M M1 (ls_ev σ p) P F (q + 1) C ∧ ls_so (ls_ev σ p) (q + 1) C P F := fun z => ⟨MA, C, P, F, rfl, ⟨ev1.1, ev1.2.1, ev1.2.2.1, ev1.2.2.2.1, fun y hy he => by
        by_cases e3 : y = q
        · rw [e3]; exact d15
        · exact ev1.2.2.2.2 y (by omega) he⟩, ls_so_0 so z⟩
      by_cases hpl : ls_pl σ q
      · have hc' : q / 4 < τ 3 0 := by rw [e 3 (by omega) (by omega)]; exact hpl.1
        have hs' : q % 4 < τ 0 (q / 4) := by rw [e 0 (by omega) (by omega)]; exact hpl.2
        have mem := lc_memAt hl O1τ np hc' hs'
        rw [show 4 * (q / 4) + q % 4 = q by omega] at mem
        have hv := lc_at_of hl np hc' hs'
        have ea : ls_at τ (480 * p + 4 * (q / 4) + q % 4) = ls_at σ (480 * p + q) := by
          rw [show 480 * p + 4 * (q / 4) + q % 4 = 480 * p + q by omega]
          unfold ls_at
          rw [e 13 (by omega) (by omega), e 14 (by omega) (by omega), e 15 (by omega) (by omega), e 16 (by omega) (by omega), e 17 (by omega) (by omega)]
        rw [ea] at hv
        have ok := hG.2.2.1 p hp q hq
        have hE : ls_ev σ p q = if ls_pl σ q ∧ 0 < (ls_at σ (480 * p + q)).1 ∧ (ls_at σ (480 * p + q)).2.2.2.2 < 8 ∧ ls_fd (ls_at σ (480 * p + q)) (σ 8 p) ≤ σ 8 p + 60 then ls_fd (ls_at σ (480 * p + q)) (σ 8 p) - σ 8 p + 1 else 0 := rfl
        generalize ls_at σ (480 * p + q) = v at *
        obtain ⟨k1, k2, k3, k4, k5, k6, k7⟩ := id ok
        have tc := lc_isToCome hv (by omega) (by omega)
        by_cases ht : 0 < v.1 ∧ v.2.2.2.2 < 8
        · rw [if_pos ht] at tc
          have fdv := lc_firstDue hv (lc_cv_of hl) ok (by omega)
          have fb := ls_fd_b ok
          have i3 : mm_I MA (n + lc_lo p) 3 = nI (σ 8 p) := by rw [(hl.2.1.2.2.2.2.1 p hp).1, e 8 (by omega) (by omega)]
          have kl := lc_kla hl np
          have pre2 : ∀ {r}, (f_X4_addSide MA (some (n + 12)) (nI q) (nI (ls_fd v (σ 8 p) - σ 8 p))).bind (fun M60 => f_X4_gather_63 M60 (some (n + 12)) (some (n + lc_lo p)) (some (n + 1)) (nI q)) = r → f_X4_gather_7 M1 (some (n + 12)) (some (n + lc_lo p)) (some (n + 1)) (nI q) = r := fun {r} z => pre mem (iff_ (fun q => nomatch q) (bx (pe_rc hv.1) (bx tc (iff_ ne10 (bx (pfI kl i3) (bx (pe_rc hv.1) (bx fdv (bx (pfI kl i3) (bx (pe_rc ((lc_di_k hd1 _).trans k12)) (by rw [pk_sub fb.1]; exact z))))))))))
          by_cases h60 : ls_fd v (σ 8 p) ≤ σ 8 p + 60
          · rw [if_pos ⟨hpl, ht.1, ht.2, h60⟩] at hE
            have hC := ls_so_C so
            obtain ⟨M3, f3, ev3, d3⟩ := cl_addSide h ev1 (q := q) (f := ls_fd v (σ 8 p) - σ 8 p) (by omega) hq (by omega) (fun j hj => (so.1 j hj).2.2) (fun j hj => (so.1 j hj).1)
            exact ⟨_, pre2 (bx f3 (hn M3)), M3, _, _, _, rfl, ⟨ev3.1, ev3.2.1, ev3.2.2.1, ev3.2.2.2.1, fun y hy he => by
              have : y ≠ q := fun e3 => by rw [e3, hE] at he; omega
              exact ev3.2.2.2.2 y (by omega) he⟩, ls_so_in so hE (by omega)⟩
          · rw [if_neg (fun z => h60 z.2.2.2)] at hE
            exact ⟨_, pre2 (bx (a := MA) (ift (nI_lt (a := 60) (by omega) (by omega)) rfl) (hn MA)), no hE⟩
        · rw [if_neg ht] at tc
          rw [if_neg (fun z => ht ⟨z.2.1, z.2.2.1⟩)] at hE
          exact ⟨_, pre mem (iff_ (fun q => nomatch q) (bx (pe_rc hv.1) (bx tc (ift rfl (hn MA))))), no hE⟩
      · have hE : ls_ev σ p q = 0 := if_neg (fun z => hpl z.1)
        exact ⟨_, pre (lc_memAtOut hl O1τ np hq (by rw [e 3 (by omega) (by omega), e 0 (by omega) (by omega)]; exact hpl)) (ift rfl (hn MA)), no hE⟩) (by
      rintro x ⟨M1, C, P, F, rfl, ev, so⟩
      exact ⟨_, bx (ev_r h ev.1 2 14 (by decide)) (bx (pe_ln (ev_k h ev.1 (14, 12, 480) (by decide)) (by omega)) (ift (nI_le (a := 480) (Nat.le_refl _) (by omega)) (mpx (bx (pe_pZ 4 (ev_k h ev.1 (12, 5, 0) (by decide)) (Or.inr rfl)) rfl)))), M1, C, P, F, rfl, ev, so⟩)
  exact ⟨M1, M2, C, P, F, bx (pe_pI 1 _ k12) hM2, e2, ev, so⟩
end
