/-! BASE 3: one step of the writing loops -/
theorem pu_cut_t {P : Nat → Bool} {k i : Nat} {x : Int64} (h : P i = true) : pu_cut P (k + 1) i x = pu_cut P k (i + 1) (x &&& (lbit i ^^^ (-1))) := by simp only [pu_cut]; rw [if_pos h]
theorem pu_cut_f {P : Nat → Bool} {k i : Nat} {x : Int64} (h : P i = false) : pu_cut P (k + 1) i x = pu_cut P k (i + 1) x := by simp only [pu_cut]; rw [if_neg (by rw [h]; decide)]
theorem pu_spread_t {a : Nat} {z : Int64} {k i : Nat} {r : Nat → Int64} (h : i = a ∨ lb (r i) a = true) : pu_spread a z (k + 1) i r = pu_spread a z k (i + 1) (vp_updL r i (r i ||| z)) := by simp only [pu_spread]; rw [if_pos h]
theorem pu_spread_f {a : Nat} {z : Int64} {k i : Nat} {r : Nat → Int64} (h : ¬ (i = a ∨ lb (r i) a = true)) : pu_spread a z (k + 1) i r = pu_spread a z k (i + 1) r := by simp only [pu_spread]; rw [if_neg h]
theorem va_up_id {α : Type} (f : Nat → α) (k : Nat) : va_up f k (f k) = f := by
  funext j
  unfold va_up
  split
  · rename_i h; rw [h]
  · rfl
theorem xSame (V : XV) : (xnp V, xnq V, xap V, xar V, xf V, xg V) = V := rfl
theorem mSame (V : MV) : (mnp V, mnq V, mco V, mkn V, mf V, mg V) = V := rfl
