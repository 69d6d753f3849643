-- the memory at the start, by tables: kinds by offset; references (place 0: the JDK's empty array); numbers
def tb_KL : List (Nat × Nat) := [(10, 0), (2, 0), (12, 400), (3, 0), (0, 0), (12, 120), (14, 120), (15, 4), (7, 0), (0, 0), (12, 120), (0, 0), (5, 0), (12, 480), (12, 480), (12, 81), (8, 0), (13, 8), (12, 4), (7, 0), (0, 0), (12, 120), (7, 0), (0, 0), (12, 120), (7, 0), (0, 0), (12, 120), (7, 0), (0, 0), (12, 120), (11, 0), (12, 120), (12, 480), (12, 120), (12, 4), (12, 4), (12, 1920), (12, 4), (12, 1920), (14, 1920), (12, 1920), (12, 1920), (12, 1920), (12, 1920), (12, 1920), (12, 3000), (12, 3000), (12, 3000), (12, 3000), (12, 3000), (12, 3000), (12, 3000), (12, 3000), (12, 3000), (12, 3000), (12, 480), (12, 480), (12, 81), (13, 8), (14, 120), (12, 120), (12, 2400)]
def tb_K (o : Nat) : Nat × Nat := tb_KL.getD o (0, 0)
def tb_r (n z : Nat) : List (Nat × Nat × Nat) → Nat → Nat → Option Nat
  | [], _, _ => none
  | t :: ts, o, f => if o = t.1 ∧ f = t.2.1 then some (if t.2.2 = 0 then z else n + (t.2.2 - 1)) else tb_r n z ts o f
def tb_i : List (Nat × Nat × Int32) → (Nat → Nat → Int32) → Nat → Nat → Int32
  | [], I, o, f => I o f
  | t :: ts, I, o, f => if o = t.1 ∧ f = t.2.1 then t.2.2 else tb_i ts I o f
def tb (n z m : Nat) (rs : List (Nat × Nat × Nat)) (is : List (Nat × Nat × Int32)) (I : Nat → Nat → Int32) : mm_M := (fun a => if a < n then (if a = z then some (18, 0) else none) else if a - n < m then some (tb_K (a - n)) else none, fun a f => if a < n then 0 else tb_i is I (a - n) f, fun a f => if a < n then none else tb_r n z rs (a - n) f, fun _ _ => 0, n + m, z)
def tbw (n z m : Nat) (T : mm_M) (rs : List (Nat × Nat × Nat)) (is : List (Nat × Nat × Int32)) (I : Nat → Nat → Int32) : Prop := T = tb n z m rs is I ∧ (∀ t, t ∈ rs → t.1 < m) ∧ (∀ t, t ∈ is → t.1 < m) ∧ ∀ o, m ≤ o → ∀ f, I o f = 0
theorem tb_r_out {n z m : Nat} : ∀ {rs : List (Nat × Nat × Nat)}, (∀ t, t ∈ rs → t.1 < m) → ∀ o f, m ≤ o → tb_r n z rs o f = none
  | [], _, _, _, _ => rfl
  | t :: ts, h, o, f, ho => by
    have := h t List.mem_cons_self
    unfold tb_r
    rw [if_neg (by omega)]
    exact tb_r_out (fun u hu => h u (List.mem_cons_of_mem _ hu)) o f ho
theorem tb_i_out {m : Nat} {I : Nat → Nat → Int32} (hI : ∀ o, m ≤ o → ∀ f, I o f = 0) : ∀ {is : List (Nat × Nat × Int32)}, (∀ t, t ∈ is → t.1 < m) → ∀ o f, m ≤ o → tb_i is I o f = 0
  | [], _, o, f, ho => hI o ho f
  | t :: ts, h, o, f, ho => by
    have := h t List.mem_cons_self
    unfold tb_i
    rw [if_neg (by omega)]
    exact tb_i_out hI (fun u hu => h u (List.mem_cons_of_mem _ hu)) o f ho
theorem mm_eq {M N : mm_M} (h1 : M.1 = N.1) (h2 : M.2.1 = N.2.1) (h3 : M.2.2.1 = N.2.2.1) (h4 : M.2.2.2.1 = N.2.2.2.1) (h5 : M.2.2.2.2.1 = N.2.2.2.2.1) (h6 : M.2.2.2.2.2 = N.2.2.2.2.2) : M = N := by
  obtain ⟨a, b, c, d, e, f⟩ := M
  obtain ⟨a2, b2, c2, d2, e2, f2⟩ := N
  simp only at h1 h2 h3 h4 h5 h6
  rw [h1, h2, h3, h4, h5, h6]
section
variable {n z m o : Nat} {T : mm_M} {rs : List (Nat × Nat × Nat)} {is : List (Nat × Nat × Int32)} {I : Nat → Nat → Int32}
theorem t_n (h : tbw n z m T rs is I) : mm_n T = n + m := by rw [h.1]; rfl
theorem t_z (h : tbw n z m T rs is I) : mm_z T = z := by rw [h.1]; rfl
theorem t_k (h : tbw n z m T rs is I) (ho : o < m) : mm_k T (n + o) = some (tb_K o) := by
  rw [h.1]
  show (if n + o < n then (if n + o = z then some (18, 0) else none) else if n + o - n < m then some (tb_K (n + o - n)) else none) = _
  rw [if_neg (by omega), Nat.add_sub_cancel_left, if_pos ho]
theorem t_R (h : tbw n z m T rs is I) (o f : Nat) : mm_R T (n + o) f = tb_r n z rs o f := by
  rw [h.1]
  show (if n + o < n then none else tb_r n z rs (n + o - n) f) = _
  rw [if_neg (by omega), Nat.add_sub_cancel_left]
theorem t_I (h : tbw n z m T rs is I) (o f : Nat) : mm_I T (n + o) f = tb_i is I o f := by
  rw [h.1]
  show (if n + o < n then 0 else tb_i is I (n + o - n) f) = _
  rw [if_neg (by omega), Nat.add_sub_cancel_left]
theorem t_nw (h : tbw n z m T rs is I) {kd : Nat × Nat} (hk : tb_K m = kd) : tbw n z (m + 1) (mm_nw T kd) rs is I := by
  obtain ⟨rfl, h1, h2, h3⟩ := h
  subst hk
  refine ⟨mm_eq ?_ ?_ ?_ ?_ rfl rfl, fun t ht => by have := h1 t ht; omega, fun t ht => by have := h2 t ht; omega, fun o ho f => h3 o (by omega) f⟩
  · funext b
    show (if b = n + m then some (tb_K m) else if b < n then (if b = z then some (18, 0) else none) else if b - n < m then some (tb_K (b - n)) else none) = if b < n then (if b = z then some (18, 0) else none) else if b - n < m + 1 then some (tb_K (b - n)) else none
    by_cases e : b = n + m
    · rw [if_pos e, if_neg (by omega), if_pos (by omega), show b - n = m by omega]
    · rw [if_neg e]
      by_cases e2 : b < n
      · rw [if_pos e2, if_pos e2]
      · rw [if_neg e2, if_neg e2]
        by_cases e3 : b - n < m
        · rw [if_pos e3, if_pos (by omega)]
        · rw [if_neg e3, if_neg (by omega)]
  · funext b f
    show (if b = n + m then 0 else if b < n then 0 else tb_i is I (b - n) f) = if b < n then 0 else tb_i is I (b - n) f
    by_cases e : b = n + m
    · rw [if_pos e, if_neg (by omega), tb_i_out h3 h2 _ _ (by omega)]
    · rw [if_neg e]
  · funext b f
    show (if b = n + m then none else if b < n then none else tb_r n z rs (b - n) f) = if b < n then none else tb_r n z rs (b - n) f
    by_cases e : b = n + m
    · rw [if_pos e, if_neg (by omega), tb_r_out h1 _ _ (by omega)]
    · rw [if_neg e]
  · funext b f
    show (if b = n + m then 0 else 0) = (0 : Int64)
    split <;> rfl
theorem t_na (h : tbw n z m T rs is I) (kd i lim : Nat) {x : Int32} (hx : x = nI i) (hl : i ≤ lim) (hm : lim < 2 ^ 31) (hk : tb_K m = (kd, i)) : ∃ T1, mm_na T kd x lim = some T1 ∧ tbw n z (m + 1) T1 rs is I := by
  rw [hx]
  exact ⟨_, pe_na hl hm, t_nw h hk⟩
theorem t_sR (h : tbw n z m T rs is I) (ho : o < m) (f : Nat) {v : Nat} {b : Nat} (hb : b = if v = 0 then z else n + (v - 1)) : tbw n z m (mm_sR T (n + o) f (some b)) ((o, f, v) :: rs) is I := by
  obtain ⟨rfl, h1, h2, h3⟩ := h
  refine ⟨mm_eq rfl rfl ?_ rfl rfl rfl, fun t ht => ?_, h2, h3⟩
  · funext a g
    show (if a = n + o ∧ g = f then some b else if a < n then none else tb_r n z rs (a - n) g) = if a < n then none else (if a - n = o ∧ g = f then some (if v = 0 then z else n + (v - 1)) else tb_r n z rs (a - n) g)
    by_cases e : a = n + o ∧ g = f
    · rw [if_pos e, if_neg (by omega), if_pos (by omega), hb]
    · rw [if_neg e]
      by_cases e2 : a < n
      · rw [if_pos e2, if_pos e2]
      · rw [if_neg e2, if_neg e2, if_neg (by omega)]
  · rcases List.mem_cons.mp ht with rfl | ht
    · exact ho
    · exact h1 t ht
theorem t_sI (h : tbw n z m T rs is I) (ho : o < m) (f : Nat) (x : Int32) : tbw n z m (mm_sI T (n + o) f x) rs ((o, f, x) :: is) I := by
  obtain ⟨rfl, h1, h2, h3⟩ := h
  refine ⟨mm_eq rfl ?_ rfl rfl rfl rfl, h1, fun t ht => ?_, h3⟩
  · funext a g
    show (if a = n + o ∧ g = f then x else if a < n then 0 else tb_i is I (a - n) g) = if a < n then 0 else (if a - n = o ∧ g = f then x else tb_i is I (a - n) g)
    by_cases e : a = n + o ∧ g = f
    · rw [if_pos e, if_neg (by omega), if_pos (by omega)]
    · rw [if_neg e]
      by_cases e2 : a < n
      · rw [if_pos e2, if_pos e2]
      · rw [if_neg e2, if_neg e2, if_neg (by omega)]
  · rcases List.mem_cons.mp ht with rfl | ht
    · exact ho
    · exact h2 t ht
/-- a number written where the tables tell none -/
theorem t_sJ (h : tbw n z m T rs [] I) (ho : o < m) (f : Nat) (x : Int32) : tbw n z m (mm_sI T (n + o) f x) rs [] (mm_u I o f x) := by
  obtain ⟨rfl, h1, h2, h3⟩ := h
  refine ⟨mm_eq rfl ?_ rfl rfl rfl rfl, h1, h2, fun a ha g => by rw [mm_u, if_neg (by omega)]; exact h3 a ha g⟩
  funext a g
  show (if a = n + o ∧ g = f then x else if a < n then 0 else I (a - n) g) = if a < n then 0 else (if a - n = o ∧ g = f then x else I (a - n) g)
  by_cases e : a = n + o ∧ g = f
  · rw [if_pos e, if_neg (by omega), if_pos (by omega)]
  · rw [if_neg e]
    by_cases e2 : a < n
    · rw [if_pos e2, if_pos e2]
    · rw [if_neg e2, if_neg e2, if_neg (by omega)]
theorem t_pR (h : tbw n z m T rs is I) {a ci : Nat} (o f v : Nat) {b : Nat} (ha : a = n + o) (ho : o < m) (hk : tb_K o = (ci, 0)) (hb : b = n + v) : ∃ T1, mm_pR T (some a) ci f (some b) = some T1 ∧ tbw n z m T1 ((o, f, v + 1) :: rs) is I := by
  subst ha
  exact ⟨_, pe_pR f _ ((t_k h ho).trans (congrArg some hk)), t_sR h ho f (by rw [if_neg (by omega)]; omega)⟩
theorem t_pRz (h : tbw n z m T rs is I) {a ci : Nat} (o f : Nat) {b : Nat} (ha : a = n + o) (ho : o < m) (hk : tb_K o = (ci, 0)) (hb : b = z) : ∃ T1, mm_pR T (some a) ci f (some b) = some T1 ∧ tbw n z m T1 ((o, f, 0) :: rs) is I := by
  subst ha
  exact ⟨_, pe_pR f _ ((t_k h ho).trans (congrArg some hk)), t_sR h ho f (by rw [if_pos rfl]; exact hb)⟩
theorem t_pI (h : tbw n z m T rs is I) {a ci : Nat} (o f : Nat) (x : Int32) (ha : a = n + o) (ho : o < m) (hk : tb_K o = (ci, 0)) : ∃ T1, mm_pI T (some a) ci f x = some T1 ∧ tbw n z m T1 rs ((o, f, x) :: is) I := by
  subst ha
  exact ⟨_, pe_pI f _ ((t_k h ho).trans (congrArg some hk)), t_sI h ho f x⟩
theorem t_pZ (h : tbw n z m T rs is I) {a ci : Nat} (o f : Nat) {x : Int32} (hx : x = 0 ∨ x = 1) (ha : a = n + o) (ho : o < m) (hk : tb_K o = (ci, 0)) : ∃ T1, mm_pZ T (some a) ci f x = some T1 ∧ tbw n z m T1 rs ((o, f, x) :: is) I := by
  subst ha
  exact ⟨_, pe_pZ f ((t_k h ho).trans (congrArg some hk)) hx, t_sI h ho f x⟩
theorem t_tI (h : tbw n z m T rs is I) {a : Nat} (o i len : Nat) {y : Int32} (x : Int32) (hy : y = nI i) (hi : i < len) (hl : len < 2 ^ 31) (ha : a = n + o) (ho : o < m) (hk : tb_K o = (12, len)) : ∃ T1, mm_tI T (some a) y x = some T1 ∧ tbw n z m T1 rs ((o, i, x) :: is) I := by
  subst ha
  rw [hy]
  exact ⟨_, pe_tI x ((t_k h ho).trans (congrArg some hk)) hi hl, t_sI h ho i x⟩
/-- a list made -/
theorem t_list (h : tbw n z m T rs is I) {a : Nat} (o : Nat) (ha : a = n + o) (ho : o < m) (hk : tb_K o = (0, 0)) : ∃ T1, f_Jx4a65c_init_da8c8 T a = some T1 ∧ tbw n z m T1 ((o, 1, 0) :: rs) ((o, 0, 0) :: is) I := by
  obtain ⟨T1, f1, h1⟩ := t_pI h (a := a) o 0 0 ha ho hk
  obtain ⟨T2, f2, h2⟩ := t_pRz h1 (a := a) o 1 (b := mm_z T1) ha ho hk (t_z h1)
  exact ⟨T2, bx (bx f1 rfl) (bx f2 rfl), h2⟩
/-- a learner made -/
theorem t_X6 (h : tbw n z m T rs is I) {a : Nat} (o : Nat) (ha : a = n + o) (ho : o < m) (hk : tb_K o = (7, 0)) (k1 : tb_K m = (0, 0)) (k2 : tb_K (m + 1) = (12, 120)) : ∃ T1, f_X6_init T a = some T1 ∧ tbw n z (m + 2) T1 ((o, 1, m + 2) :: (o, 0, m + 1) :: (m, 1, 0) :: rs) ((m, 0, 0) :: is) I := by
  have h0 := t_nw h k1
  obtain ⟨T2, f2, h2⟩ := t_list h0 (a := mm_n T) m (t_n h) (by omega) k1
  obtain ⟨T3, f3, h3⟩ := t_pR h2 (a := a) o 0 m (b := mm_n T) ha (by omega) hk (t_n h)
  obtain ⟨T4, f4, h4⟩ := t_na h3 12 120 120 (x := 120) rfl (by omega) (by omega) k2
  obtain ⟨T5, f5, h5⟩ := t_pR h4 (a := a) o 1 (m + 1) (b := mm_n T3) ha (by omega) hk (t_n h3)
  exact ⟨T5, bx f2 (bx f3 (bx f4 (bx f5 rfl))), h5⟩
/-- the curve made -/
theorem t_X1 (h : tbw n z m T rs [] I) {a : Nat} (o : Nat) (ha : a = n + o) (ho : o < m) (hk : tb_K o = (2, 0)) (k1 : tb_K m = (12, 400)) (hI : ∀ o f, I o f = 0) : ∃ T1 J, f_X1_init T a = some T1 ∧ tbw n z (m + 1) T1 ((o, 0, m + 1) :: rs) [] J ∧ J o 1 = nI 15 ∧ (∀ i, i < 400 → J m i = nI (ls_F i)) ∧ ∀ b f, b ≠ o → b ≠ m → J b f = 0 := by
  subst ha
  obtain ⟨T2, f2, h2⟩ := t_na h 12 400 400 (x := 400) rfl (by omega) (by omega) k1
  obtain ⟨T3, f3, h3⟩ := t_pR h2 (a := n + o) o 0 m (b := mm_n T) rfl (by omega) hk (t_n h)
  have rR : tb_r n z ((o, 0, m + 1) :: rs) o 0 = some (n + m) := by
    show (if o = o ∧ (0 : Nat) = 0 then some (if m + 1 = 0 then z else n + (m + 1 - 1)) else tb_r n z rs o 0) = some (n + m)
    rw [if_pos ⟨rfl, rfl⟩, if_neg (by omega), Nat.add_sub_cancel]
  obtain ⟨T4, hy, J, hJ⟩ := pe_cnt (body := fun x : mm_M × Int32 × Int32 × Int32 => f_X1_init_21 x.1 (n + o) x.2.1 x.2.2.1 x.2.2.2) (x := (T3, 1000, 0, 0))
    (fun i x => ∃ T4 J, x = (T4, nI (ls_F i), nI (if i < 15 then i else 15), nI i) ∧ tbw n z (m + 1) T4 ((o, 0, m + 1) :: rs) [] J ∧ (∀ j, j < i → J m j = nI (ls_F j)) ∧ ∀ b f, b ≠ m → J b f = 0)
    (fun T4 => ∃ J, tbw n z (m + 1) T4 ((o, 0, m + 1) :: rs) [] J ∧ J o 1 = nI 15 ∧ (∀ i, i < 400 → J m i = nI (ls_F i)) ∧ ∀ b f, b ≠ o → b ≠ m → J b f = 0) 400 ⟨T3, I, rfl, h3, fun j hj => absurd hj (Nat.not_lt_zero j), fun b f _ => hI b f⟩ (by
      rintro i x hi ⟨T4, J, rfl, h4, hJ, hz⟩
      have ka : mm_k T4 (n + o) = some (2, 0) := (t_k h4 (by omega)).trans (congrArg some hk)
      have km : mm_k T4 (n + m) = some (12, 400) := (t_k h4 (by omega)).trans (congrArg some k1)
      have ra : mm_R T4 (n + o) 0 = some (n + m) := (t_R h4 o 0).trans rR
      have h5 := t_sJ h4 (o := m) (by omega) i (nI (ls_F i))
      have hF := ls_F_le i
      have eF : nI (ls_F i) * 9934 / 10000 = nI (ls_F (i + 1)) := by
        rw [show nI (ls_F i) * 9934 = nI (ls_F i * 9934) from pk_mul _ 9934]
        exact pk_div (d := 10000) (by omega) (by omega) (by omega)
      have fin : ∀ (c : Nat), c = (if i + 1 < 15 then i + 1 else 15) → f_X1_init_47 (mm_sI T4 (n + m) i (nI (ls_F i))) (n + o) (nI (ls_F i)) (nI c) (nI i) = some (.inl (mm_sI T4 (n + m) i (nI (ls_F i)), nI (ls_F (i + 1)), nI (if i + 1 < 15 then i + 1 else 15), nI (i + 1))) := fun c hc => by
        show some (Sum.inl (_, nI (ls_F i) * 9934 / 10000, nI c, nI i + 1)) = _
        rw [eF, nI_1, hc]
      refine ⟨_, bx (pfR ka ra) (bx (pe_ln km (by omega)) (iff_ (nI_ge (b := 400) hi (by omega)) (bx (pfR ka ra) (bx (pe_tI _ km hi (by omega)) ?_)))), _, _, rfl, h5, fun j hj => ?_, fun b f hb => ?_⟩
      · have F14 := ls_F14
        by_cases hc : i < 15
        · have h9 : 900 ≤ ls_F i := Nat.le_trans F14.1 (ls_F_an (by omega))
          refine iff_ (nI_nlt (by omega) (by omega)) ?_
          show f_X1_init_47 _ (n + o) (nI (ls_F i)) (nI (if i < 15 then i else 15) + 1) (nI i) = _
          rw [if_pos hc, nI_1]
          refine fin (i + 1) ?_
          by_cases h14 : i + 1 < 15
          · rw [if_pos h14]
          · rw [if_neg h14]; omega
        · have h9 : ls_F i < 900 := Nat.lt_of_le_of_lt (ls_F_an (a := 15) (by omega)) F14.2
          refine ift (nI_lt (b := 900) h9 (by omega)) ?_
          rw [if_neg hc]
          exact fin 15 (if_neg (by omega)).symm
      · rw [mm_u]
        by_cases e : j = i
        · rw [if_pos ⟨rfl, e⟩, e]
        · rw [if_neg (fun q => e q.2)]; exact hJ j (by omega)
      · rw [mm_u, if_neg (fun q => hb q.1)]; exact hz b f hb) (by
      rintro x ⟨T4, J, rfl, h4, hJ, hz⟩
      have ka : mm_k T4 (n + o) = some (2, 0) := (t_k h4 (by omega)).trans (congrArg some hk)
      have km : mm_k T4 (n + m) = some (12, 400) := (t_k h4 (by omega)).trans (congrArg some k1)
      have ra : mm_R T4 (n + o) 0 = some (n + m) := (t_R h4 o 0).trans rR
      have h5 := t_sJ h4 (o := o) (by omega) 1 (nI 15)
      have hom : o ≠ m := by omega
      refine ⟨_, bx (pfR ka ra) (bx (pe_ln km (by omega)) (ift (nI_le (a := 400) (Nat.le_refl _) (by omega)) (mpx (bx (pe_pI 1 _ ka) rfl)))), _, h5, by rw [mm_u, if_pos ⟨rfl, rfl⟩], fun i hi => by rw [mm_u, if_neg (fun q => hom q.1.symm)]; exact hJ i hi, fun b f hb hb2 => by rw [mm_u, if_neg (fun q => hb q.1)]; exact hz b f hb2⟩)
  refine ⟨T4, J, ?_, hJ⟩
  unfold f_X1_init f_X1_init_0
  exact bx f2 (bx f3 hy)

/-- the evening made -/
theorem t_X4 (h : tbw n z 13 T rs is I) {a : Nat} (ha : a = n + 12) : ∃ T1, f_X4_init T a = some T1 ∧ tbw n z 16 T1 ((12, 3, 16) :: (12, 2, 15) :: (12, 0, 14) :: rs) is I := by
  obtain ⟨T1, f1, h1⟩ := t_na h 12 480 480 (x := 480) rfl (by omega) (by omega) rfl
  obtain ⟨T2, f2, h2⟩ := t_pR h1 (a := a) (ci := 5) 12 0 13 (b := mm_n T) ha (by omega) rfl (t_n h)
  obtain ⟨T3, f3, h3⟩ := t_na h2 12 480 480 (x := 480) rfl (by omega) (by omega) rfl
  obtain ⟨T4, f4, h4⟩ := t_pR h3 (a := a) (ci := 5) 12 2 14 (b := mm_n T2) ha (by omega) rfl (t_n h2)
  obtain ⟨T5, f5, h5⟩ := t_na h4 12 81 81 (x := 81) rfl (by omega) (by omega) rfl
  obtain ⟨T6, f6, h6⟩ := t_pR h5 (a := a) (ci := 5) 12 3 15 (b := mm_n T4) ha (by omega) rfl (t_n h4)
  refine ⟨T6, ?_, h6⟩
  unfold f_X4_init f_X4_init_0
  exact bx f1 (bx f2 (bx f3 (bx f4 (bx f5 (bx f6 rfl)))))
/-- the deck made -/
theorem t_X2 (h : tbw n z 4 T rs is I) {a : Nat} (ha : a = n + 3) : ∃ T1, f_X2_init T a = some T1 ∧ tbw n z 7 T1 ((3, 2, 7) :: (3, 1, 6) :: (3, 0, 5) :: (4, 1, 0) :: rs) ((4, 0, 0) :: is) I := by
  have h1 := t_nw h (kd := (0, 0)) rfl
  obtain ⟨T2, f2, h2⟩ := t_list h1 (a := mm_n T) 4 (t_n h) (by omega) rfl
  obtain ⟨T3, f3, h3⟩ := t_pR h2 (a := a) (ci := 3) 3 0 4 (b := mm_n T) ha (by omega) rfl (t_n h)
  obtain ⟨T4, f4, h4⟩ := t_na h3 12 120 120 (x := 120) rfl (by omega) (by omega) rfl
  obtain ⟨T5, f5, h5⟩ := t_pR h4 (a := a) (ci := 3) 3 1 5 (b := mm_n T3) ha (by omega) rfl (t_n h3)
  obtain ⟨T6, f6, h6⟩ := t_na h5 14 120 120 (x := 120) rfl (by omega) (by omega) rfl
  obtain ⟨T7, f7, h7⟩ := t_pR h6 (a := a) (ci := 3) 3 2 6 (b := mm_n T5) ha (by omega) rfl (t_n h5)
  exact ⟨T7, bx f2 (bx f3 (bx f4 (bx f5 (bx f6 (bx f7 rfl))))), h7⟩
/-- the test made -/
theorem t_X7 (h : tbw n z 17 T rs is I) {a : Nat} (ha : a = n + 16) : ∃ T1, f_X7_init T a = some T1 ∧ tbw n z 18 T1 ((16, 0, 18) :: rs) ((16, 5, 1) :: is) I := by
  obtain ⟨T1, f1, h1⟩ := t_na h 13 8 8 (x := 8) rfl (by omega) (by omega) rfl
  obtain ⟨T2, f2, h2⟩ := t_pR h1 (a := a) (ci := 8) 16 0 17 (b := mm_n T) ha (by omega) rfl (t_n h)
  obtain ⟨T3, f3, h3⟩ := t_pZ h2 (a := a) (ci := 8) 16 5 (x := 1) (Or.inr rfl) ha (by omega) rfl
  refine ⟨T3, ?_, h3⟩
  unfold f_X7_init f_X7_init_0
  exact bx f1 (bx f2 (bx f3 rfl))

def tb_rc : List (Nat × Nat × Nat) := [(7, 3, 29), (28, 1, 31), (28, 0, 30), (29, 1, 0), (7, 2, 26), (25, 1, 28), (25, 0, 27), (26, 1, 0), (7, 1, 23), (22, 1, 25), (22, 0, 24), (23, 1, 0), (7, 0, 20), (19, 1, 22), (19, 0, 21), (20, 1, 0), (0, 7, 19), (0, 6, 17), (16, 0, 18), (0, 5, 13), (12, 3, 16), (12, 2, 15), (12, 0, 14), (0, 4, 12), (11, 1, 0), (0, 3, 9), (8, 1, 11), (8, 0, 10), (9, 1, 0), (0, 2, 8), (0, 1, 4), (3, 2, 7), (3, 1, 6), (3, 0, 5), (4, 1, 0), (0, 0, 2), (1, 0, 3)]
def tb_ic : List (Nat × Nat × Int32) := [(29, 0, 0), (26, 0, 0), (23, 0, 0), (20, 0, 0), (0, 10, 10), (0, 9, 60), (0, 8, 0), (18, 3, 3000), (18, 2, 2000), (18, 1, 1000), (18, 0, 200), (16, 5, 1), (11, 0, 0), (9, 0, 0), (4, 0, 0)]

theorem t_X9 (h : tbw n z 1 T [] [] (fun _ _ => 0)) : ∃ T1 J, f_X9_init T n = some T1 ∧ tbw n z 31 T1 tb_rc tb_ic J ∧ J 1 1 = nI 15 ∧ (∀ i, i < 400 → J 2 i = nI (ls_F i)) ∧ ∀ b f, b ≠ 1 → b ≠ 2 → J b f = 0 := by
  have h1 := t_nw h (kd := (2, 0)) rfl
  obtain ⟨T2, J, f2, h2, j1, j2, j3⟩ := t_X1 h1 (a := mm_n T) 1 (t_n h) (by omega) rfl rfl (fun _ _ => rfl)
  obtain ⟨T3, f3, h3⟩ := t_pR h2 (a := n) (ci := 10) 0 0 1 (b := mm_n T) rfl (by omega) rfl (t_n h)
  have h4 := t_nw h3 (kd := (3, 0)) rfl
  obtain ⟨T5, f5, h5⟩ := t_X2 h4 (a := mm_n T3) (t_n h3)
  obtain ⟨T6, f6, h6⟩ := t_pR h5 (a := n) (ci := 10) 0 1 3 (b := mm_n T3) rfl (by omega) rfl (t_n h3)
  obtain ⟨T7, f7, h7⟩ := t_na h6 15 4 4 (x := 4) rfl (by omega) (by omega) rfl
  obtain ⟨T8, f8, h8⟩ := t_pR h7 (a := n) (ci := 10) 0 2 7 (b := mm_n T6) rfl (by omega) rfl (t_n h6)
  have h9 := t_nw h8 (kd := (7, 0)) rfl
  obtain ⟨T10, f10, h10⟩ := t_X6 h9 (a := mm_n T8) 8 (t_n h8) (by omega) rfl rfl rfl
  obtain ⟨T11, f11, h11⟩ := t_pR h10 (a := n) (ci := 10) 0 3 8 (b := mm_n T8) rfl (by omega) rfl (t_n h8)
  have h12 := t_nw h11 (kd := (0, 0)) rfl
  obtain ⟨T13, f13, h13⟩ := t_list h12 (a := mm_n T11) 11 (t_n h11) (by omega) rfl
  obtain ⟨T14, f14, h14⟩ := t_pR h13 (a := n) (ci := 10) 0 4 11 (b := mm_n T11) rfl (by omega) rfl (t_n h11)
  have h15 := t_nw h14 (kd := (5, 0)) rfl
  obtain ⟨T16, f16, h16⟩ := t_X4 h15 (a := mm_n T14) (t_n h14)
  obtain ⟨T17, f17, h17⟩ := t_pR h16 (a := n) (ci := 10) 0 5 12 (b := mm_n T14) rfl (by omega) rfl (t_n h14)
  have h18 := t_nw h17 (kd := (8, 0)) rfl
  obtain ⟨T19, f19, h19⟩ := t_X7 h18 (a := mm_n T17) (t_n h17)
  obtain ⟨T20, f20, h20⟩ := t_pR h19 (a := n) (ci := 10) 0 6 16 (b := mm_n T17) rfl (by omega) rfl (t_n h17)
  obtain ⟨T21, f21, h21⟩ := t_na h20 12 4 4 (x := 4) rfl (by omega) (by omega) rfl
  obtain ⟨T22, f22, h22⟩ := t_tI h21 (a := mm_n T20) 18 0 4 (y := 0) 200 rfl (by omega) (by omega) (t_n h20) (by omega) rfl
  obtain ⟨T23, f23, h23⟩ := t_tI h22 (a := mm_n T20) 18 1 4 (y := 1) 1000 rfl (by omega) (by omega) (t_n h20) (by omega) rfl
  obtain ⟨T24, f24, h24⟩ := t_tI h23 (a := mm_n T20) 18 2 4 (y := 2) 2000 rfl (by omega) (by omega) (t_n h20) (by omega) rfl
  obtain ⟨T25, f25, h25⟩ := t_tI h24 (a := mm_n T20) 18 3 4 (y := 3) 3000 rfl (by omega) (by omega) (t_n h20) (by omega) rfl
  obtain ⟨T26, f26, h26⟩ := t_pR h25 (a := n) (ci := 10) 0 7 18 (b := mm_n T20) rfl (by omega) rfl (t_n h20)
  obtain ⟨T27, f27, h27⟩ := t_pI h26 (a := n) (ci := 10) 0 8 0 rfl (by omega) rfl
  obtain ⟨T28, f28, h28⟩ := t_pI h27 (a := n) (ci := 10) 0 9 60 rfl (by omega) rfl
  obtain ⟨T29, f29, h29⟩ := t_pI h28 (a := n) (ci := 10) 0 10 10 rfl (by omega) rfl
  have kx0 : mm_k T29 n = some (10, 0) := (t_k h29 (o := 0) (by omega)).trans (congrArg some rfl)
  have rx0 : mm_R T29 n 2 = some (n + 7) := (t_R h29 0 2).trans rfl
  have k70 : mm_k T29 (n + 7) = some (15, 4) := (t_k h29 (by omega)).trans (congrArg some rfl)
  have h30 := t_nw h29 (kd := (7, 0)) rfl
  obtain ⟨T31, f31, h31⟩ := t_X6 h30 (a := mm_n T29) 19 (t_n h29) (by omega) rfl rfl rfl
  have k7b0 : mm_k T31 (n + 7) = some (15, 4) := (t_k h31 (by omega)).trans (congrArg some rfl)
  have kb0 : mm_k T31 (mm_n T29) = some (7, 0) := by rw [t_n h29]; exact (t_k h31 (by omega)).trans (congrArg some rfl)
  have h32 := t_sR h31 (o := 7) (by omega) 0 (v := 20) (b := mm_n T29) (by rw [if_neg (by omega)]; exact t_n h29)
  obtain ⟨T33, e33⟩ : ∃ X, X = (mm_sR T31 (n + 7) 0 (some (mm_n T29))) := ⟨_, rfl⟩
  rw [← e33] at h32
  have s0 := mm_w_l (body := fun x : Nat × mm_M × Int32 => f_X9_init_128 x.2.1 x.1 n x.2.2) (x := (0, T29, 0)) (y := (1, (mm_sR T31 (n + 7) 0 (some (mm_n T29))), 1)) (bx (pfR kx0 rx0) (bx (pe_ln k70 (by omega)) (iff_ (nI_ge (a := 0) (b := 4) (by omega) (by omega)) (bx (pfR kx0 rx0) (gdx (show 0 < 4 by omega) (bx f31 (bx (pe_tR (i := 0) k7b0 kb0 (by decide) (by omega) (by omega)) rfl)))))))
  rw [← e33] at s0
  have kx1 : mm_k T33 n = some (10, 0) := (t_k h32 (o := 0) (by omega)).trans (congrArg some rfl)
  have rx1 : mm_R T33 n 2 = some (n + 7) := (t_R h32 0 2).trans rfl
  have k71 : mm_k T33 (n + 7) = some (15, 4) := (t_k h32 (by omega)).trans (congrArg some rfl)
  have h34 := t_nw h32 (kd := (7, 0)) rfl
  obtain ⟨T35, f35, h35⟩ := t_X6 h34 (a := mm_n T33) 22 (t_n h32) (by omega) rfl rfl rfl
  have k7b1 : mm_k T35 (n + 7) = some (15, 4) := (t_k h35 (by omega)).trans (congrArg some rfl)
  have kb1 : mm_k T35 (mm_n T33) = some (7, 0) := by rw [t_n h32]; exact (t_k h35 (by omega)).trans (congrArg some rfl)
  have h36 := t_sR h35 (o := 7) (by omega) 1 (v := 23) (b := mm_n T33) (by rw [if_neg (by omega)]; exact t_n h32)
  obtain ⟨T37, e37⟩ : ∃ X, X = (mm_sR T35 (n + 7) 1 (some (mm_n T33))) := ⟨_, rfl⟩
  rw [← e37] at h36
  have s1 := mm_w_l (body := fun x : Nat × mm_M × Int32 => f_X9_init_128 x.2.1 x.1 n x.2.2) (x := (1, T33, 1)) (y := (2, (mm_sR T35 (n + 7) 1 (some (mm_n T33))), 2)) (bx (pfR kx1 rx1) (bx (pe_ln k71 (by omega)) (iff_ (nI_ge (a := 1) (b := 4) (by omega) (by omega)) (bx (pfR kx1 rx1) (gdx (show 1 < 4 by omega) (bx f35 (bx (pe_tR (i := 1) k7b1 kb1 (by decide) (by omega) (by omega)) rfl)))))))
  rw [← e37] at s1
  have kx2 : mm_k T37 n = some (10, 0) := (t_k h36 (o := 0) (by omega)).trans (congrArg some rfl)
  have rx2 : mm_R T37 n 2 = some (n + 7) := (t_R h36 0 2).trans rfl
  have k72 : mm_k T37 (n + 7) = some (15, 4) := (t_k h36 (by omega)).trans (congrArg some rfl)
  have h38 := t_nw h36 (kd := (7, 0)) rfl
  obtain ⟨T39, f39, h39⟩ := t_X6 h38 (a := mm_n T37) 25 (t_n h36) (by omega) rfl rfl rfl
  have k7b2 : mm_k T39 (n + 7) = some (15, 4) := (t_k h39 (by omega)).trans (congrArg some rfl)
  have kb2 : mm_k T39 (mm_n T37) = some (7, 0) := by rw [t_n h36]; exact (t_k h39 (by omega)).trans (congrArg some rfl)
  have h40 := t_sR h39 (o := 7) (by omega) 2 (v := 26) (b := mm_n T37) (by rw [if_neg (by omega)]; exact t_n h36)
  obtain ⟨T41, e41⟩ : ∃ X, X = (mm_sR T39 (n + 7) 2 (some (mm_n T37))) := ⟨_, rfl⟩
  rw [← e41] at h40
  have s2 := mm_w_l (body := fun x : Nat × mm_M × Int32 => f_X9_init_128 x.2.1 x.1 n x.2.2) (x := (2, T37, 2)) (y := (3, (mm_sR T39 (n + 7) 2 (some (mm_n T37))), 3)) (bx (pfR kx2 rx2) (bx (pe_ln k72 (by omega)) (iff_ (nI_ge (a := 2) (b := 4) (by omega) (by omega)) (bx (pfR kx2 rx2) (gdx (show 2 < 4 by omega) (bx f39 (bx (pe_tR (i := 2) k7b2 kb2 (by decide) (by omega) (by omega)) rfl)))))))
  rw [← e41] at s2
  have kx3 : mm_k T41 n = some (10, 0) := (t_k h40 (o := 0) (by omega)).trans (congrArg some rfl)
  have rx3 : mm_R T41 n 2 = some (n + 7) := (t_R h40 0 2).trans rfl
  have k73 : mm_k T41 (n + 7) = some (15, 4) := (t_k h40 (by omega)).trans (congrArg some rfl)
  have h42 := t_nw h40 (kd := (7, 0)) rfl
  obtain ⟨T43, f43, h43⟩ := t_X6 h42 (a := mm_n T41) 28 (t_n h40) (by omega) rfl rfl rfl
  have k7b3 : mm_k T43 (n + 7) = some (15, 4) := (t_k h43 (by omega)).trans (congrArg some rfl)
  have kb3 : mm_k T43 (mm_n T41) = some (7, 0) := by rw [t_n h40]; exact (t_k h43 (by omega)).trans (congrArg some rfl)
  have h44 := t_sR h43 (o := 7) (by omega) 3 (v := 29) (b := mm_n T41) (by rw [if_neg (by omega)]; exact t_n h40)
  obtain ⟨T45, e45⟩ : ∃ X, X = (mm_sR T43 (n + 7) 3 (some (mm_n T41))) := ⟨_, rfl⟩
  rw [← e45] at h44
  have s3 := mm_w_l (body := fun x : Nat × mm_M × Int32 => f_X9_init_128 x.2.1 x.1 n x.2.2) (x := (3, T41, 3)) (y := (4, (mm_sR T43 (n + 7) 3 (some (mm_n T41))), 4)) (bx (pfR kx3 rx3) (bx (pe_ln k73 (by omega)) (iff_ (nI_ge (a := 3) (b := 4) (by omega) (by omega)) (bx (pfR kx3 rx3) (gdx (show 3 < 4 by omega) (bx f43 (bx (pe_tR (i := 3) k7b3 kb3 (by decide) (by omega) (by omega)) rfl)))))))
  rw [← e45] at s3
  have kx4 : mm_k T45 n = some (10, 0) := (t_k h44 (o := 0) (by omega)).trans (congrArg some rfl)
  have rx4 : mm_R T45 n 2 = some (n + 7) := (t_R h44 0 2).trans rfl
  have k74 : mm_k T45 (n + 7) = some (15, 4) := (t_k h44 (by omega)).trans (congrArg some rfl)
  have s4 : mm_w (fun x : Nat × mm_M × Int32 => f_X9_init_128 x.2.1 x.1 n x.2.2) (4, T45, 4) = some T45 := mm_w_r (bx (pfR kx4 rx4) (bx (pe_ln k74 (by omega)) (ift (nI_le (a := 4) (b := 4) (by omega) (by omega)) (gdx (show (4 : Nat) ≤ 4 by omega) (mpx rfl)))))
  refine ⟨T45, J, ?_, h44, j1, j2, j3⟩
  unfold f_X9_init f_X9_init_0
  exact bx f2 (bx f3 (bx f5 (bx f6 (bx f7 (bx f8 (bx f10 (bx f11 (bx f13 (bx f14 (bx f16 (bx f17 (bx f19 (bx f20 (bx f21 (bx f22 (bx f23 (bx f24 (bx f25 (bx f26 (bx f27 (bx f28 (bx f29 (s0.trans (s1.trans (s2.trans (s3.trans s4))))))))))))))))))))))))))
end
