/-! WHAT A STATE IS, and what the methods answer of it.
X (PortRules): np parts, nq ports, the sets ap (provided, atomic) and ar (required, atomic), the arrays by the number of their field: f of ints and booleans, g of longs:
f 1 compositionOf, f 2 hasInnerParts, f 3 managerOf, f 5 partOf, f 6 kindOf, f 7 isProvided, f 8 unitOf, g 9 upOf, g 10 downOf, f 11 versionOf, f 12 hasFallback, f 13 fallbackOf, f 14 queueOf, g 15 connectedTo, g 16 reachedFrom.
M (PortRulesModel): parts, ports, code, known; f 2 in, f 4 partOf, f 5 kindOf, f 6 provides, f 7 unit, g 8 up, g 9 down, f 10 version, f 11 hasFallback, f 12 fallback, f 13 queue, f 14 manager, f 15 leads, f 16 reaches. -/
abbrev XV : Type := Nat × Nat × Int64 × Int64 × (Nat → Nat → Int32) × (Nat → Nat → Int64)
abbrev xnp (V : XV) : Nat := V.1
abbrev xnq (V : XV) : Nat := V.2.1
abbrev xap (V : XV) : Int64 := V.2.2.1
abbrev xar (V : XV) : Int64 := V.2.2.2.1
abbrev xf (V : XV) : Nat → Nat → Int32 := V.2.2.2.2.1
abbrev xg (V : XV) : Nat → Nat → Int64 := V.2.2.2.2.2
abbrev MV : Type := Nat × Nat × Int32 × Int32 × (Nat → Nat → Int32) × (Nat → Nat → Int64)
abbrev mnp (M : MV) : Nat := M.1
abbrev mnq (M : MV) : Nat := M.2.1
abbrev mco (M : MV) : Int32 := M.2.2.1
abbrev mkn (M : MV) : Int32 := M.2.2.2.1
abbrev mf (M : MV) : Nat → Nat → Int32 := M.2.2.2.2.1
abbrev mg (M : MV) : Nat → Nat → Int64 := M.2.2.2.2.2
def pu_any (P : Nat → Bool) : Nat → Nat → Bool
  | 0, _ => false
  | k + 1, i => P i || pu_any P k (i + 1)
theorem pu_any_iff {P : Nat → Bool} : ∀ (k i : Nat), pu_any P k i = true ↔ ∃ j, i ≤ j ∧ j < i + k ∧ P j = true := by
  intro k
  induction k with
  | zero => intro i; constructor
            · intro h; exact absurd h (by simp [pu_any])
            · intro ⟨j, h1, h2, _⟩; omega
  | succ k ih =>
    intro i
    simp only [pu_any, Bool.or_eq_true, ih (i + 1)]
    constructor
    · rintro (h | ⟨j, h1, h2, h3⟩)
      · exact ⟨i, Nat.le_refl i, by omega, h⟩
      · exact ⟨j, by omega, by omega, h3⟩
    · rintro ⟨j, h1, h2, h3⟩
      by_cases e : j = i
      · subst e; exact Or.inl h3
      · exact Or.inr ⟨j, by omega, by omega, h3⟩
theorem pu_any_congr {P Q : Nat → Bool} : ∀ (k i : Nat), (∀ j, i ≤ j → j < i + k → P j = Q j) → pu_any P k i = pu_any Q k i := by
  intro k
  induction k with
  | zero => intro i _; rfl
  | succ k ih =>
    intro i h
    simp only [pu_any]
    rw [h i (Nat.le_refl i) (by omega), ih (i + 1) (fun j h1 h2 => h j (by omega) (by omega))]
def pu_or (f : Nat → Int64) : Nat → Nat → Int64 → Int64
  | 0, _, x => x
  | k + 1, i, x => pu_or f k (i + 1) (x ||| f i)
theorem pu_or_lb {f : Nat → Int64} {j : Nat} : ∀ (k i : Nat) (x : Int64), lb (pu_or f k i x) j = (lb x j || pu_any (fun p => lb (f p) j) k i) := by
  intro k
  induction k with
  | zero => intro i x; simp [pu_or, pu_any]
  | succ k ih =>
    intro i x
    simp only [pu_or, pu_any]
    rw [ih (i + 1), lb_or, Bool.or_assoc]
def lrm (x y : Int64) : Int64 := x - x / y * y
/-- an int between two numbers -/
def inB (x : Int32) (lo hi : Int) : Bool := decide (lo ≤ x.toInt ∧ x.toInt ≤ hi)
def inL (x : Int64) (lo hi : Int) : Bool := decide (lo ≤ x.toInt ∧ x.toInt ≤ hi)
theorem inB_t {x : Int32} {lo hi : Int} (h1 : lo ≤ x.toInt) (h2 : x.toInt ≤ hi) : inB x lo hi = true := decide_eq_true ⟨h1, h2⟩
theorem inB_lo {x : Int32} {lo hi : Int} (h : x.toInt < lo) : inB x lo hi = false := decide_eq_false (by omega)
theorem inB_hi {x : Int32} {lo hi : Int} (h : hi < x.toInt) : inB x lo hi = false := decide_eq_false (by omega)
theorem inL_t {x : Int64} {lo hi : Int} (h1 : lo ≤ x.toInt) (h2 : x.toInt ≤ hi) : inL x lo hi = true := decide_eq_true ⟨h1, h2⟩
theorem inL_lo {x : Int64} {lo hi : Int} (h : x.toInt < lo) : inL x lo hi = false := decide_eq_false (by omega)
theorem inL_hi {x : Int64} {lo hi : Int} (h : hi < x.toInt) : inL x lo hi = false := decide_eq_false (by omega)
theorem inB_of {x : Int32} {lo hi : Int} (h : inB x lo hi = true) : lo ≤ x.toInt ∧ x.toInt ≤ hi := of_decide_eq_true h
/-- a port or part that there is -/
theorem inB_nI {x : Int32} {n : Nat} (hn : n < 2 ^ 31) (h : inB x 1 n = true) : ∃ j : Nat, 1 ≤ j ∧ j ≤ n ∧ x = nI j := ni_range hn (inB_of h).1 (inB_of h).2
/-- X: the second ports of the flat connectors from p -/
def xFl (V : XV) (p : Nat) : Int64 := if lb (xap V) p then xg V 16 p &&& xar V else 0
theorem xFl_t {V : XV} {p : Nat} (h : lb (xap V) p = true) : xFl V p = xg V 16 p &&& xar V := by unfold xFl; rw [if_pos h]
theorem xFl_f {V : XV} {p : Nat} (h : lb (xap V) p = false) : xFl V p = 0 := by unfold xFl; rw [if_neg (by rw [h]; decide)]
def xF (V : XV) (p q : Nat) : Bool := lb (xFl V p) q
def xWay (V : XV) (p q a b : Nat) : Bool := if xf V 7 p = 0 then decide (xf V 7 q = 0) && decide (xf V 1 b = nI a) else if xf V 7 q = 0 then !decide (nI a = nI b) && decide (xf V 1 a = xf V 1 b) else decide (xf V 1 a = nI b)
def xTo (V : XV) (q : Nat) : Nat := pu_cnt (fun p => xF V p q) (xnq V) 1
def xPB (V : XV) (r q : Nat) : Bool :=
  if r = 5 then !decide (xf V 6 q = 2) && decide (xf V 12 q = 0) && decide (xTo V q = 0)
  else if r = 6 then decide (xf V 6 q = 2) && decide (xTo V q = 0)
  else if r = 7 then decide (xf V 6 q = 2) && decide (1 < xTo V q)
  else decide (xf V 6 q = 1) && decide (xf V 14 q = 0)
def xEx (V : XV) (p q : Nat) : Bool := !decide (xg V 10 p * xg V 9 q = 0) && decide (lrm (xg V 9 p * xg V 10 q) (xg V 10 p * xg V 9 q) = 0)
def xSv (V : XV) (p q : Nat) : Bool := decide ((xf V 11 q).toInt ≤ (xf V 11 p).toInt) && decide (xf V 11 p / 100 = xf V 11 q / 100)
def xMg (V : XV) (x : Int32) : Bool := pu_any (fun k => decide (xf V 3 k = x)) 10 0
def xCB (V : XV) (r p q : Nat) : Bool :=
  if r = 1 then (decide (xf V 8 p = -1) != decide (xf V 8 q = -1))
  else if r = 2 then !decide (xf V 8 p = xf V 8 q)
  else if r = 3 then !decide (xf V 8 p = -1) && !xEx V p q
  else if r = 4 then !decide (xf V 11 q = -1) && !xSv V p q
  else decide (xf V 6 p = 3) && !xMg V (xf V 5 p)
def xBP (V : XV) (r : Nat) : Nat := pu_fst (fun q => lb (xar V) q && xPB V r q) (xnq V) 1
def xBC (V : XV) (r : Nat) : Nat := pu_fst2 (fun p q => xF V p q && xCB V r p q) (xnq V) (xnq V) 1
def xChk (V : XV) : Nat := pu_chk (fun r => if 5 ≤ r ∧ r ≤ 8 then xBP V r else xBC V r) 9 1
def xSec (V : XV) : Int64 := pu_or (xFl V) (xnq V) 1 0
def xOp (V : XV) (t : Nat) : Nat := pu_nth (fun q => lb (xar V &&& (xSec V ^^^ (-1))) q) (xnq V) 1 t
def xAll (V : XV) : Nat := pu_sum (fun p => pu_cnt (lb (xFl V p)) 64 0) (xnq V) 1
theorem xTo_le (V : XV) (q : Nat) : xTo V q ≤ xnq V := pu_cnt_le _ _ _
theorem xBP_le (V : XV) (r : Nat) : xBP V r ≤ xnq V := by
  unfold xBP
  rcases pu_fst_lt (fun q => lb (xar V) q && xPB V r q) (xnq V) 1 with h | h <;> omega
theorem xBC_le (V : XV) (r : Nat) : xBC V r ≤ xnq V := pu_fst2_lt _ _ _ _
/-- what X's methods need: indices in their ranges; the sets are of ports alone -/
def xOK (V : XV) : Prop := xnp V ≤ 30 ∧ xnq V ≤ 60 ∧ (∀ j, 1 ≤ j → j ≤ xnq V → ∃ c : Nat, 1 ≤ c ∧ c ≤ xnp V ∧ xf V 5 j = nI c) ∧ (∀ j, lb (xar V) j = true → 1 ≤ j ∧ j ≤ xnq V)
/-- M: the connectors; what they lead to; atomic parts; the flat connectors -/
def mL (M : MV) (p q : Nat) : Bool := !decide (mf M 15 (61 * p + q) = 0)
def mAt (M : MV) (x : Int32) : Bool := !pu_any (fun k => decide (mf M 2 k = x)) (mnp M) 1
def mR (M : MV) (p q : Nat) : Bool := pu_wl (mL M) (mnq M) p q
def mKn (M : MV) : Prop := ∀ p q, 1 ≤ p → p ≤ mnq M → 1 ≤ q → q ≤ mnq M → (!decide (mf M 16 (61 * p + q) = 0)) = mR M p q
def mF (M : MV) (p q : Nat) : Bool := !decide (mf M 6 p = 0) && (decide (mf M 6 q = 0) && (mR M p q && (mAt M (mf M 4 p) && mAt M (mf M 4 q))))
def mWay (M : MV) (p q a b : Nat) : Bool := if mf M 6 p = 0 then decide (mf M 6 q = 0) && decide (mf M 2 b = nI a) else if mf M 6 q = 0 then !decide (nI a = nI b) && decide (mf M 2 a = mf M 2 b) else decide (mf M 2 a = nI b)
def mTo (M : MV) (q : Nat) : Nat := pu_cnt (fun p => mF M p q) (mnq M) 1
def mRd (M : MV) (q : Nat) : Bool := decide (mf M 6 q = 0) && mAt M (mf M 4 q)
def mPB (M : MV) (r q : Nat) : Bool :=
  if r = 5 then !decide (mf M 5 q = 2) && (decide (mTo M q = 0) && decide (mf M 11 q = 0))
  else if r = 6 then decide (mf M 5 q = 2) && decide (mTo M q = 0)
  else if r = 7 then decide (mf M 5 q = 2) && decide (1 < mTo M q)
  else decide (mf M 5 q = 1) && decide (mf M 13 q = 0)
def mMg (M : MV) (x : Int32) : Bool := pu_any (fun k => decide (mf M 14 k = x)) 10 0
def mBo (M : MV) (p q : Nat) : Bool := decide (0 ≤ (mf M 7 p).toInt) && decide (0 ≤ (mf M 7 q).toInt)
def mCB (M : MV) (r p q : Nat) : Bool :=
  if r = 1 then (decide (0 ≤ (mf M 7 p).toInt) != decide (0 ≤ (mf M 7 q).toInt))
  else if r = 2 then mBo M p q && !decide (mf M 7 p = mf M 7 q)
  else if r = 3 then mBo M p q && !decide (lrm (mg M 8 p * mg M 9 q) (mg M 9 p * mg M 8 q) = 0)
  else if r = 4 then decide (0 ≤ (mf M 10 q).toInt) && (decide ((mf M 10 p).toInt < (mf M 10 q).toInt) || !decide (mf M 10 p / 100 = mf M 10 q / 100))
  else decide (mf M 5 p = 3) && !mMg M (mf M 4 p)
def mBP (M : MV) (r : Nat) : Nat := pu_fst (fun q => mRd M q && mPB M r q) (mnq M) 1
def mBC (M : MV) (r : Nat) : Nat := pu_fst2 (fun p q => mF M p q && mCB M r p q) (mnq M) (mnq M) 1
def mChk (M : MV) : Nat := pu_chk (fun r => if 5 ≤ r ∧ r ≤ 8 then mBP M r else mBC M r) 9 1
def mOp (M : MV) (t : Nat) : Nat := pu_nth (fun q => mRd M q && decide (mTo M q = 0)) (mnq M) 1 t
def mAll (M : MV) : Nat := pu_sum (fun p => pu_cnt (mF M p) (mnq M) 1) (mnq M) 1
/-- what M's methods need -/
def mOK (M : MV) : Prop := mnp M ≤ 30 ∧ mnq M ≤ 60 ∧ (∀ j, 1 ≤ j → j ≤ mnq M → ∃ c : Nat, 1 ≤ c ∧ c ≤ mnp M ∧ mf M 4 j = nI c) ∧ (∀ j, 1 ≤ j → j ≤ mnq M → 0 ≤ (mf M 7 j).toInt → inL (mg M 8 j) 1 1000 = true ∧ inL (mg M 9 j) 1 1000 = true) ∧ (¬ mkn M = 0 → mKn M)
