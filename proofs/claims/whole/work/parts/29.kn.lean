/-! WARSHALL in place: what the array holds at by = b, at row i, at place j -/
def bv (r : Nat → Int32) (p q : Nat) : Bool := !decide (r (61 * p + q) = 0)
theorem bv_t {r : Nat → Int32} {p q : Nat} (h : ¬ r (61 * p + q) = 0) : bv r p q = true := by unfold bv; rw [decide_eq_false h]; rfl
theorem bv_f {r : Nat → Int32} {p q : Nat} (h : r (61 * p + q) = 0) : bv r p q = false := by unfold bv; rw [decide_eq_true h]; rfl
def kn3 (L : Nat → Nat → Bool) (n : Nat) (r : Nat → Int32) (b i j : Nat) : Prop := ∀ p q, 1 ≤ p → p ≤ n → 1 ≤ q → q ≤ n → bv r p q = (if p < i ∨ (p = i ∧ q < j) then pu_wl L (b + 1) p q else pu_wl L b p q)
theorem kn3_b {L : Nat → Nat → Bool} {n : Nat} {r : Nat → Int32} {b i j p : Nat} (h : kn3 L n r b i j) (hp : 1 ≤ p ∧ p ≤ n) (hb : b + 1 ≤ n) : bv r p (b + 1) = pu_wl L b p (b + 1) := by
  rw [h p (b + 1) hp.1 hp.2 (by omega) hb]
  split
  · exact pu_wl_to
  · rfl
theorem kn3_f {L : Nat → Nat → Bool} {n : Nat} {r : Nat → Int32} {b i j q : Nat} (h : kn3 L n r b i j) (hq : 1 ≤ q ∧ q ≤ n) (hb : b + 1 ≤ n) : bv r (b + 1) q = pu_wl L b (b + 1) q := by
  rw [h (b + 1) q (by omega) hb hq.1 hq.2]
  split
  · exact pu_wl_from
  · rfl
theorem bv_upd {r : Nat → Int32} {i j p q : Nat} {x : Int32} (hj : j ≤ 60) (hq : q ≤ 60) : bv (upd r (61 * i + j) x) p q = (if p = i ∧ q = j then !decide (x = 0) else bv r p q) := by
  unfold bv
  by_cases e : p = i ∧ q = j
  · obtain ⟨rfl, rfl⟩ := e
    rw [if_pos ⟨rfl, rfl⟩, pk_us]
  · rw [if_neg e, pk_un (by omega)]
/-- one place written -/
theorem kn3_set {L : Nat → Nat → Bool} {n : Nat} {r : Nat → Int32} {b i j : Nat} {x : Int32} (h : kn3 L n r b i j) (hn : n ≤ 60) (hb : b + 1 ≤ n) (hi : 1 ≤ i ∧ i ≤ n) (hj : 1 ≤ j ∧ j ≤ n) (ht : bv r i (b + 1) = true)
    (hx : (!decide (x = 0)) = (bv r i j || bv r (b + 1) j)) : kn3 L n (upd r (61 * i + j) x) b i (j + 1) := by
  intro p q h1 h2 h3 h4
  rw [bv_upd (by omega) (by omega)]
  by_cases e : p = i ∧ q = j
  · obtain ⟨rfl, rfl⟩ := e
    rw [if_pos ⟨rfl, rfl⟩, if_pos (Or.inr ⟨rfl, by omega⟩), hx, kn3_f h hj hb, h p q hi.1 hi.2 hj.1 hj.2, if_neg (by omega)]
    rw [kn3_b h hi hb] at ht
    simp only [pu_wl]
    rw [ht, Bool.true_and]
  · rw [if_neg e, h p q h1 h2 h3 h4]
    by_cases c : p < i ∨ (p = i ∧ q < j)
    · rw [if_pos c, if_pos (by omega)]
    · rw [if_neg c, if_neg (by omega)]
/-- a row that doesn't lead to by -/
theorem kn3_skip {L : Nat → Nat → Bool} {n : Nat} {r : Nat → Int32} {b i j : Nat} (h : kn3 L n r b i j) (hb : b + 1 ≤ n) (hi : 1 ≤ i ∧ i ≤ n) (ht : bv r i (b + 1) = false) : kn3 L n r b (i + 1) 1 := by
  intro p q h1 h2 h3 h4
  rw [h p q h1 h2 h3 h4]
  rw [kn3_b h hi hb] at ht
  by_cases e : p = i
  · subst e
    rw [if_pos (show p < p + 1 ∨ (p = p + 1 ∧ q < 1) by omega)]
    have e2 : pu_wl L (b + 1) p q = pu_wl L b p q := by simp [pu_wl, ht]
    rw [e2]
    split <;> rfl
  · by_cases c : p < i ∨ (p = i ∧ q < j)
    · rw [if_pos c, if_pos (by omega)]
    · rw [if_neg c, if_neg (by omega)]
theorem kn3_next {L : Nat → Nat → Bool} {n : Nat} {r : Nat → Int32} {b i j : Nat} (h : kn3 L n r b i j) (hj : n < j) : kn3 L n r b (i + 1) 1 := by
  intro p q h1 h2 h3 h4
  rw [h p q h1 h2 h3 h4]
  by_cases c : p < i ∨ (p = i ∧ q < j)
  · rw [if_pos c, if_pos (by omega)]
  · rw [if_neg c, if_neg (by omega)]
theorem kn3_by {L : Nat → Nat → Bool} {n : Nat} {r : Nat → Int32} {b i j : Nat} (h : kn3 L n r b i j) (hi : n < i) : kn3 L n r (b + 1) 1 1 := by
  intro p q h1 h2 h3 h4
  rw [h p q h1 h2 h3 h4, if_pos (by omega), if_neg (by omega)]
theorem kn3_0 {L : Nat → Nat → Bool} {n : Nat} {r : Nat → Int32} (h : ∀ p q, 1 ≤ p → p ≤ n → 1 ≤ q → q ≤ n → bv r p q = L p q) : kn3 L n r 0 1 1 := by
  intro p q h1 h2 h3 h4
  rw [h p q h1 h2 h3 h4, if_neg (by omega)]
  rfl
theorem kn3_end {L : Nat → Nat → Bool} {n : Nat} {r : Nat → Int32} (h : kn3 L n r n 1 1) : ∀ p q, 1 ≤ p → p ≤ n → 1 ≤ q → q ≤ n → bv r p q = pu_wl L n p q := by
  intro p q h1 h2 h3 h4
  rw [h p q h1 h2 h3 h4, if_neg (by omega)]
/-- M after know -/
def mKd (V u : MV) : Prop := ∃ (kn : Int32) (r : Nat → Int32), ¬ kn = 0 ∧ u = (mnp V, mnq V, mco V, kn, va_up (mf V) 16 r, mg V) ∧ mKn u
/-- M, but for code and what know writes -/
def mUp (V : MV) (co : Int32) (u : MV) : Prop := ∃ (kn : Int32) (r : Nat → Int32), u = (mnp V, mnq V, co, kn, va_up (mf V) 16 r, mg V) ∧ (¬ kn = 0 → mKn u)
/-- what M's methods need of the connectors' array -/
def mLb (V : MV) : Prop := ∀ k, k < 3721 → mf V 15 k = 0 ∨ mf V 15 k = 1
theorem mLb_n {V : MV} (h : mLb V) {k : Nat} (hk : k < 3721) : vp_nar .boolean (mf V 15 k) = mf V 15 k := by
  rcases h k hk with e | e <;> rw [e] <;> rfl
/-- the answers of flat and at -/
def mFc (V : MV) (x : Int32) : Nat := if x.toInt < 0 then 0 else pu_at (mF V) (mnq V) (mnq V) 1 x.toNatClampNeg
def mFl (V : MV) (x : Int32) : Int32 := if mFc V x = 0 then nI (mAll V) - 10000 else nI (mFc V x)
theorem mAll_le (V : MV) (h : mnq V ≤ 60) : mAll V ≤ 3600 := by
  have h1 := pu_sum_le (f := fun p => pu_cnt (mF V p) (mnq V) 1) (b := mnq V) (fun j => pu_cnt_le _ _ _) (mnq V) 1
  unfold mAll
  have h2 : mnq V * mnq V ≤ 60 * 60 := Nat.mul_le_mul h h
  omega
theorem mFc_lt (V : MV) (x : Int32) (h : mnq V ≤ 60) : mFc V x < 3721 := by
  unfold mFc
  split
  · omega
  · rcases pu_at_in (F := mF V) (n := mnq V) (mnq V) 1 x.toNatClampNeg with e | ⟨a, b, h1, h2, h3, h4, e⟩
    · omega
    · omega
