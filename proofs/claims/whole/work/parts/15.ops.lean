/-! THE CALLS THAT CHANGE SOMETHING: answer and new state -/
/-- the ports with P taken out of a set -/
def pu_cut (P : Nat → Bool) : Nat → Nat → Int64 → Int64
  | 0, _, x => x
  | k + 1, i, x => pu_cut P k (i + 1) (if P i then x &&& (lbit i ^^^ (-1)) else x)
theorem pu_cut_lb {P : Nat → Bool} {j : Nat} (hj : j < 64) : ∀ (k i : Nat) (x : Int64), i + k ≤ 64 → lb (pu_cut P k i x) j = (lb x j && !(decide (i ≤ j ∧ j < i + k) && P j)) := by
  intro k
  induction k with
  | zero =>
    intro i x _
    have h : ¬ (i ≤ j ∧ j < i + 0) := by omega
    rw [decide_eq_false h]
    simp [pu_cut]
  | succ k ih =>
    intro i x h
    simp only [pu_cut]
    rw [ih (i + 1) _ (by omega)]
    by_cases e : i = j
    · subst e
      have h1 : ¬ (i + 1 ≤ i ∧ i < i + 1 + k) := by omega
      have h2 : (i ≤ i ∧ i < i + (k + 1)) := by omega
      cases hp : P i with
      | true => rw [decide_eq_false h1, decide_eq_true h2, if_pos rfl, lb_and, lb_not _ hj, lb_bit hj]; simp
      | false => rw [decide_eq_false h1, decide_eq_true h2, if_neg (by decide)]; simp
    · have h3 : (i + 1 ≤ j ∧ j < i + 1 + k) ↔ (i ≤ j ∧ j < i + (k + 1)) := by omega
      have h4 : lb (if P i = true then x &&& (lbit i ^^^ (-1)) else x) j = lb x j := by
        cases hp : P i with
        | true => rw [if_pos rfl, lb_and, lb_not _ hj, lb_bit (show i < 64 by omega), decide_eq_false e]; simp
        | false => rw [if_neg (by decide)]
      rw [h4]
      simp [h3]
def xEnd (V : XV) (c : Nat) : XV := (xnp V, xnq V, pu_cut (fun j => decide (xf V 5 j = nI c)) (xnq V) 1 (xap V), pu_cut (fun j => decide (xf V 5 j = nI c)) (xnq V) 1 (xar V), va_up (xf V) 2 (upd (xf V 2) c 1), xg V)
def xPart1 (V : XV) (c : Int32) : XV := (xnp V + 1, xnq V, xap V, xar V, va_up (xf V) 1 (upd (xf V 1) (xnp V + 1) c), xg V)
def xPart (V : XV) (c : Int32) : Int32 × XV :=
  if c = 0 ∨ inB c 1 (xnp V) = true then
    if 30 ≤ xnp V then (-4, V) else if c = 0 then (nI (xnp V + 1), xPart1 V c) else (nI (xnp V + 1), xEnd (xPart1 V c) c.toNatClampNeg)
  else (-1, V)
def xAdd (V : XV) (j : Nat) : XV := (xnp V, xnq V, (if xf V 7 j = 0 then xap V else xap V ||| lbit j), (if xf V 7 j = 0 then xar V ||| lbit j else xar V), xf V, xg V)
def xPort1 (V : XV) (a k b : Int32) : XV := (xnp V, xnq V + 1, xap V, xar V, va_up (va_up (va_up (xf V) 5 (upd (xf V 5) (xnq V + 1) a)) 6 (upd (xf V 6) (xnq V + 1) k)) 7 (upd (xf V 7) (xnq V + 1) b), xg V)
def xPort (V : XV) (a k b : Int32) : Int32 × XV :=
  if inB a 1 (xnp V) = true then
    if inB k 0 3 = true then
      if 60 ≤ xnq V then (-4, V)
      else if xf V 2 a.toNatClampNeg = 0 then (nI (xnq V + 1), xAdd (xPort1 V a k b) (xnq V + 1)) else (nI (xnq V + 1), xPort1 V a k b)
    else (-2, V)
  else (-1, V)
def xUnit (V : XV) (p u : Int32) (x y : Int64) : Int32 × XV :=
  if inB p 1 (xnq V) = true then
    if inB u 0 20 = true ∧ inL x 1 1000 = true ∧ inL y 1 1000 = true then (1, (xnp V, xnq V, xap V, xar V, va_up (xf V) 8 (upd (xf V 8) p.toNatClampNeg u), va_up (va_up (xg V) 9 (vp_updL (xg V 9) p.toNatClampNeg x)) 10 (vp_updL (xg V 10) p.toNatClampNeg y)))
    else (-2, V)
  else (-1, V)
/-- what a new connector from a to b does to the sets of what is reached, for the k numbers from i on -/
def pu_spread (a : Nat) (z : Int64) : Nat → Nat → (Nat → Int64) → (Nat → Int64)
  | 0, _, r => r
  | k + 1, i, r => pu_spread a z k (i + 1) (if i = a ∨ lb (r i) a = true then vp_updL r i (r i ||| z) else r)
theorem pu_spread_at {a : Nat} {z : Int64} : ∀ (k i : Nat) (r : Nat → Int64) (p : Nat), pu_spread a z k i r p = if (i ≤ p ∧ p < i + k) ∧ (p = a ∨ lb (r p) a = true) then r p ||| z else r p := by
  intro k
  induction k with
  | zero =>
    intro i r p
    have h : ¬ ((i ≤ p ∧ p < i + 0) ∧ (p = a ∨ lb (r p) a = true)) := by omega
    rw [if_neg h]
    rfl
  | succ k ih =>
    intro i r p
    simp only [pu_spread]
    rw [ih]
    by_cases e : p = i
    · subst e
      have h1 : ¬ (p + 1 ≤ p ∧ p < p + 1 + k) := by omega
      have h2 : (p ≤ p ∧ p < p + (k + 1)) := by omega
      simp only [h1, h2, false_and, if_false, true_and]
      by_cases hc : p = a ∨ lb (r p) a = true
      · rw [if_pos hc, if_pos hc, pk_uLs]
      · rw [if_neg hc, if_neg hc]
    · have h4 : (if i = a ∨ lb (r i) a = true then vp_updL r i (r i ||| z) else r) p = r p := by
        by_cases hc : i = a ∨ lb (r i) a = true
        · rw [if_pos hc, pk_uLn e]
        · rw [if_neg hc]
      have h3 : (i + 1 ≤ p ∧ p < i + 1 + k) ↔ (i ≤ p ∧ p < i + (k + 1)) := by omega
      rw [h4]
      simp only [h3]
def xSpread (V : XV) (a b : Nat) : XV := (xnp V, xnq V, xap V, xar V, xf V, va_up (xg V) 16 (pu_spread a (xg V 16 b ||| lbit b) (xnq V) 1 (xg V 16)))
def xConn1 (V : XV) (a b : Nat) : XV := (xnp V, xnq V, xap V, xar V, xf V, va_up (xg V) 15 (vp_updL (xg V 15) a (xg V 15 a ||| lbit b)))
def xConn (V : XV) (p q : Int32) : Int32 × XV :=
  if inB p 1 (xnq V) = true ∧ inB q 1 (xnq V) = true then
    if xf V 6 p.toNatClampNeg = xf V 6 q.toNatClampNeg ∧ xWay V p.toNatClampNeg q.toNatClampNeg (xf V 5 p.toNatClampNeg).toNatClampNeg (xf V 5 q.toNatClampNeg).toNatClampNeg = true then
      if lb (xg V 15 p.toNatClampNeg) q.toNatClampNeg = true then (0, V) else (1, xSpread (xConn1 V p.toNatClampNeg q.toNatClampNeg) p.toNatClampNeg q.toNatClampNeg)
    else (-2, V)
  else (-1, V)
def xMan (V : XV) (k a : Int32) : Int32 × XV :=
  if inB a 1 (xnp V) = true then
    if inB k 0 9 = true then
      if xf V 3 k.toNatClampNeg = 0 ∨ xf V 3 k.toNatClampNeg = a then (1, (xnp V, xnq V, xap V, xar V, va_up (xf V) 3 (upd (xf V 3) k.toNatClampNeg a), xg V)) else (0, V)
    else (-2, V)
  else (-1, V)
def xFall (V : XV) (p v : Int32) : Int32 × XV :=
  if inB p 1 (xnq V) = true then
    if xf V 7 p.toNatClampNeg = 0 then (xf V 13 p.toNatClampNeg, (xnp V, xnq V, xap V, xar V, va_up (va_up (xf V) 12 (upd (xf V 12) p.toNatClampNeg 1)) 13 (upd (xf V 13) p.toNatClampNeg v), xg V)) else (-3, V)
  else (-1, V)
def xQue (V : XV) (p n : Int32) : Int32 × XV :=
  if inB p 1 (xnq V) = true then
    if inB n 1 100 = true then
      if xf V 6 p.toNatClampNeg = 1 then (1, (xnp V, xnq V, xap V, xar V, va_up (xf V) 14 (upd (xf V 14) p.toNatClampNeg n), xg V)) else (-3, V)
    else (-2, V)
  else (-1, V)
def xVer (V : XV) (p v : Int32) : Int32 × XV :=
  if inB p 1 (xnq V) = true then
    if inB v 0 9999 = true then (1, (xnp V, xnq V, xap V, xar V, va_up (xf V) 11 (upd (xf V 11) p.toNatClampNeg v), xg V)) else (-2, V)
  else (-1, V)
/-! M: each call begins with code := 0 -/
def m0 (M : MV) : MV := (mnp M, mnq M, 0, mkn M, mf M, mg M)
def mPart (M : MV) (c : Int32) : Int32 × MV :=
  if inB c 0 (mnp M) = true then
    if mnp M = 30 then (-4, m0 M) else (nI (mnp M + 1), (mnp M + 1, mnq M, 0, 0, va_up (mf M) 2 (upd (mf M 2) (mnp M + 1) c), mg M))
  else (-1, m0 M)
def mPort (M : MV) (a k b : Int32) : Int32 × MV :=
  if inB a 1 (mnp M) = true then
    if inB k 0 3 = true then
      if mnq M = 60 then (-4, m0 M)
      else (nI (mnq M + 1), (mnp M, mnq M + 1, 0, 0, va_up (va_up (va_up (va_up (va_up (mf M) 4 (upd (mf M 4) (mnq M + 1) a)) 5 (upd (mf M 5) (mnq M + 1) k)) 6 (upd (mf M 6) (mnq M + 1) b)) 7 (upd (mf M 7) (mnq M + 1) (-1))) 10 (upd (mf M 10) (mnq M + 1) (-1)), mg M))
    else (-2, m0 M)
  else (-1, m0 M)
def mUnit (M : MV) (p u : Int32) (x y : Int64) : Int32 × MV :=
  if inB p 1 (mnq M) = true then
    if inB u 0 20 = true ∧ inL x 1 1000 = true ∧ inL y 1 1000 = true then (1, (mnp M, mnq M, 0, mkn M, va_up (mf M) 7 (upd (mf M 7) p.toNatClampNeg u), va_up (va_up (mg M) 8 (vp_updL (mg M 8) p.toNatClampNeg x)) 9 (vp_updL (mg M 9) p.toNatClampNeg y)))
    else (-2, m0 M)
  else (-1, m0 M)
def mConn (M : MV) (p q : Int32) : Int32 × MV :=
  if inB p 1 (mnq M) = true ∧ inB q 1 (mnq M) = true then
    if mf M 5 p.toNatClampNeg = mf M 5 q.toNatClampNeg ∧ mWay M p.toNatClampNeg q.toNatClampNeg (mf M 4 p.toNatClampNeg).toNatClampNeg (mf M 4 q.toNatClampNeg).toNatClampNeg = true then
      if mf M 15 (61 * p.toNatClampNeg + q.toNatClampNeg) = 0 then (1, (mnp M, mnq M, 0, 0, va_up (mf M) 15 (upd (mf M 15) (61 * p.toNatClampNeg + q.toNatClampNeg) 1), mg M)) else (0, m0 M)
    else (-2, m0 M)
  else (-1, m0 M)
def mMan (M : MV) (k a : Int32) : Int32 × MV :=
  if inB a 1 (mnp M) = true then
    if inB k 0 9 = true then
      if mf M 14 k.toNatClampNeg = 0 ∨ mf M 14 k.toNatClampNeg = a then (1, (mnp M, mnq M, 0, mkn M, va_up (mf M) 14 (upd (mf M 14) k.toNatClampNeg a), mg M)) else (0, m0 M)
    else (-2, m0 M)
  else (-1, m0 M)
def mFall (M : MV) (p v : Int32) : Int32 × MV :=
  if inB p 1 (mnq M) = true then
    if mf M 6 p.toNatClampNeg = 0 then (mf M 12 p.toNatClampNeg, (mnp M, mnq M, 0, mkn M, va_up (va_up (mf M) 12 (upd (mf M 12) p.toNatClampNeg v)) 11 (upd (mf M 11) p.toNatClampNeg 1), mg M)) else (-3, m0 M)
  else (-1, m0 M)
def mQue (M : MV) (p n : Int32) : Int32 × MV :=
  if inB p 1 (mnq M) = true then
    if inB n 1 100 = true then
      if mf M 5 p.toNatClampNeg = 1 then (1, (mnp M, mnq M, 0, mkn M, va_up (mf M) 13 (upd (mf M 13) p.toNatClampNeg n), mg M)) else (-3, m0 M)
    else (-2, m0 M)
  else (-1, m0 M)
def mVer (M : MV) (p v : Int32) : Int32 × MV :=
  if inB p 1 (mnq M) = true then
    if inB v 0 9999 = true then (1, (mnp M, mnq M, 0, mkn M, va_up (mf M) 10 (upd (mf M 10) p.toNatClampNeg v), mg M)) else (-2, m0 M)
  else (-1, m0 M)
