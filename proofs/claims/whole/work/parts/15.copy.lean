-- Arrays.copyOf of a list's row
def mm_cp (M : mm_M) (a b n : Nat) : mm_M := (M.1, M.2.1, fun c j => if c = b ∧ j < n then M.2.2.1 a j else M.2.2.1 c j, M.2.2.2)
noncomputable def f_J7_copyOf_1904c (M : mm_M) (v0 : Option Nat) (v1 : Int32) : Option (Option Nat × mm_M) := match v0 with
  | none => none
  | some a => match mm_al M (some a) 17 with
    | none => none
    | some n => if n ≤ 1000 ∧ ¬ v1 < 0 ∧ v1.toNatClampNeg ≤ 1000 then some (some (mm_n M), mm_cp (mm_nw M (17, v1.toNatClampNeg)) a (mm_n M) (min n v1.toNatClampNeg)) else none
theorem c_J7_copyOf_1904c (l : Launch) (G : va_G) (cy : Nat → ClassId) {M : mm_M} {v0 : Option Nat} {v1 : Int32} {r : Option Nat} {M1 : mm_M} (hf : f_J7_copyOf_1904c M v0 v1 = some (r, M1)) : mm_Met l yJ7_copyOf_1904c cJ7_copyOf_1904c 2 (some (.array (.object "java/lang/Object"))) 3 60 1 1000 G cy [mm_r v0, mm_i v1] M (some (mm_r r)) M1 := by
  sorry
