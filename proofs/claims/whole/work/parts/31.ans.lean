/-! the answers of M's at and open -/
def mAtA (V : MV) (x w : Int32) : Int32 := if mFc V x = 0 then 0 else if w = 0 then nI (mFc V x / 61) else nI (mFc V x % 61)
def mAtC (V : MV) (x : Int32) : Int32 := if mFc V x = 0 then 1 else 0
def mOpA (V : MV) (x : Int32) : Int32 := if x.toInt < 0 then 0 else nI (mOp V x.toNatClampNeg)
theorem mFc_n {V : MV} {x : Int32} (h : x.toInt < 0) : mFc V x = 0 := if_pos h
theorem mFc_t (V : MV) {t : Nat} (ht : t < 2 ^ 31) : mFc V (nI t) = pu_at (mF V) (mnq V) (mnq V) 1 t := by
  unfold mFc
  rw [if_neg (by rw [nI_toInt ht]; omega), nI_clamp ht]
theorem mFl_0 {V : MV} {x : Int32} (h : mFc V x = 0) : mFl V x = nI (mAll V) - 10000 := if_pos h
theorem mFl_n {V : MV} {x : Int32} (h : ¬ mFc V x = 0) : mFl V x = nI (mFc V x) := if_neg h
theorem mOpA_n {V : MV} {x : Int32} (h : x.toInt < 0) : mOpA V x = 0 := if_pos h
theorem mOpA_t (V : MV) {t : Nat} (ht : t < 2 ^ 31) : mOpA V (nI t) = nI (mOp V t) := by
  unfold mOpA
  rw [if_neg (by rw [nI_toInt ht]; omega), nI_clamp ht]
theorem mAtA_0 {V : MV} {x w : Int32} (h : mFc V x = 0) : mAtA V x w = 0 := if_pos h
theorem mAtC_0 {V : MV} {x : Int32} (h : mFc V x = 0) : mAtC V x = 1 := if_pos h
theorem mAtC_n {V : MV} {x : Int32} (h : ¬ mFc V x = 0) : mAtC V x = 0 := if_neg h
theorem i32_sa (a b : Int32) : a - b + b = a := Int32.sub_add_cancel a b
theorem i32_neg (x : Int32) : x.toInt < 0 ∨ ∃ t : Nat, t < 2 ^ 31 ∧ x = nI t := by
  by_cases h : x.toInt < 0
  · exact Or.inl h
  · exact Or.inr (ni_pos (by omega))
