/-! BITS of a long: lb x j is bit j of x; ux x is x as an unsigned number -/
def lb (x : Int64) (j : Nat) : Bool := x.toBitVec.getLsbD j
def ux (x : Int64) : Nat := x.toUInt64.toNat
theorem lb_ux (x : Int64) (j : Nat) : (ux x).testBit j = lb x j := rfl
theorem lb_and (x y : Int64) (j : Nat) : lb (x &&& y) j = (lb x j && lb y j) := by simp [lb]
theorem lb_or (x y : Int64) (j : Nat) : lb (x ||| y) j = (lb x j || lb y j) := by simp [lb]
theorem lb_0 (j : Nat) : lb 0 j = false := by simp [lb]
theorem lb_big {x : Int64} {j : Nat} (h : 64 ≤ j) : lb x j = false := BitVec.getLsbD_of_ge _ _ h
theorem lb_ext {x y : Int64} (h : ∀ j, j < 64 → lb x j = lb y j) : x = y := by
  apply Int64.toBitVec_inj.mp
  exact BitVec.eq_of_getLsbD_eq h
theorem lb_m1 : ∀ j, j < 64 → lb (-1) j = true := by decide +kernel
theorem lb_xor (x y : Int64) (j : Nat) : lb (x ^^^ y) j = (lb x j ^^ lb y j) := by simp [lb]
theorem lb_not (x : Int64) {j : Nat} (hj : j < 64) : lb (x ^^^ (-1)) j = !lb x j := by
  rw [lb_xor, lb_m1 j hj]
  cases lb x j <;> rfl
/-- the one bit p -/
def lbit (p : Nat) : Int64 := (1 : Int64) <<< ((nI p).toInt64 &&& 63)
theorem lbit_bv : ∀ p, p < 64 → (lbit p).toBitVec = BitVec.twoPow 64 p := by decide +kernel
theorem lb_bit {p : Nat} (hp : p < 64) (j : Nat) : lb (lbit p) j = decide (p = j) := by
  unfold lb
  rw [lbit_bv p hp, BitVec.getLsbD_twoPow]
  simp [hp]
theorem lb_hold (x : Int64) {p : Nat} (hp : p < 64) : x &&& lbit p = 0 ↔ lb x p = false := by
  constructor
  · intro h
    have h1 := lb_and x (lbit p) p
    rw [h, lb_0, lb_bit hp] at h1
    simpa using h1.symm
  · intro h
    refine lb_ext fun j hj => ?_
    rw [lb_and, lb_0, lb_bit hp]
    by_cases e : p = j
    · subst e; simp [h]
    · simp [e]
theorem lb_holdn (x : Int64) {p : Nat} (hp : p < 64) : ¬ x &&& lbit p = 0 ↔ lb x p = true := by
  rw [lb_hold x hp]
  cases lb x p <;> simp
/-! how many bits: the JDK's Long.bitCount -/
theorem ux_lt (x : Int64) : ux x < 18446744073709551616 := x.toUInt64.toNat_lt
theorem ux_add (x y : Int64) : ux (x + y) = (ux x + ux y) % 18446744073709551616 := by
  show (x.toUInt64 + y.toUInt64).toNat = _
  exact UInt64.toNat_add _ _
theorem ux_sub (x y : Int64) : ux (x - y) = (18446744073709551616 - ux y + ux x) % 18446744073709551616 := by
  show (x.toUInt64 - y.toUInt64).toNat = _
  exact UInt64.toNat_sub _ _
theorem ux_and (x y : Int64) : ux (x &&& y) = ux x &&& ux y := by
  show (x.toUInt64 &&& y.toUInt64).toNat = _
  exact UInt64.toNat_and _ _
theorem ux_shr (x : Int64) (s : UInt64) : ux (x.toUInt64 >>> s).toInt64 = ux x / 2 ^ (s.toNat % 64) := by
  show (x.toUInt64 >>> s).toNat = _
  rw [UInt64.toNat_shiftRight, Nat.shiftRight_eq_div_pow]
  rfl
def lsr (x : Int64) (k : Int32) : Int64 := (x.toUInt64 >>> (k.toInt64.toUInt64 &&& Int64.toUInt64 63)).toInt64
theorem ux_lsr (x : Int64) {k : Int32} (n : Nat) (h : (k.toInt64.toUInt64 &&& Int64.toUInt64 63).toNat % 64 = n) : ux (lsr x k) = ux x / 2 ^ n := by
  unfold lsr
  rw [ux_shr, h]
def bc1 (x : Int64) : Int64 := x - (lsr x 1 &&& 6148914691236517205)
def bc2 (x : Int64) : Int64 := (x &&& 3689348814741910323) + (lsr x 2 &&& 3689348814741910323)
def bc3 (x : Int64) : Int64 := (x + lsr x 4) &&& 1085102592571150095
def bc4 (x : Int64) : Int64 := x + lsr x 8
def bc5 (x : Int64) : Int64 := x + lsr x 16
def bc6 (x : Int64) : Int64 := x + lsr x 32
def bcv (x : Int64) : Int32 := (bc6 (bc5 (bc4 (bc3 (bc2 (bc1 x)))))).toInt32 &&& 127
def by8 (a b c d e f g h : Nat) : Nat := a + 256 * (b + 256 * (c + 256 * (d + 256 * (e + 256 * (f + 256 * (g + 256 * h))))))
theorem by_and {b c : Nat} (m n : Nat) (hb : b < 256) (hc : c < 256) : (b + 256 * m) &&& (c + 256 * n) = (b &&& c) + 256 * (m &&& n) := by
  have h1 : (b &&& c) < 256 := Nat.lt_of_le_of_lt Nat.and_le_left hb
  have e1 : ((b + 256 * m) &&& (c + 256 * n)) % 2 ^ 8 = ((b &&& c) + 256 * (m &&& n)) % 2 ^ 8 := by
    rw [Nat.and_mod_two_pow, show (b + 256 * m) % 2 ^ 8 = b by omega, show (c + 256 * n) % 2 ^ 8 = c by omega]
    omega
  have e2 : ((b + 256 * m) &&& (c + 256 * n)) / 2 ^ 8 = ((b &&& c) + 256 * (m &&& n)) / 2 ^ 8 := by
    rw [Nat.and_div_two_pow, show (b + 256 * m) / 2 ^ 8 = m by omega, show (c + 256 * n) / 2 ^ 8 = n by omega]
    omega
  omega
theorem by8_and {a b c d e f g h k : Nat} (h1 : a < 256) (h2 : b < 256) (h3 : c < 256) (h4 : d < 256) (h5 : e < 256) (h6 : f < 256) (h7 : g < 256) (hk : k < 256) :
    by8 a b c d e f g h &&& by8 k k k k k k k k = by8 (a &&& k) (b &&& k) (c &&& k) (d &&& k) (e &&& k) (f &&& k) (g &&& k) (h &&& k) := by
  unfold by8
  rw [by_and _ _ h1 hk, by_and _ _ h2 hk, by_and _ _ h3 hk, by_and _ _ h4 hk, by_and _ _ h5 hk, by_and _ _ h6 hk, by_and _ _ h7 hk]
theorem by_d1 : ∀ b, b < 256 → ∀ c, c < 2 → (b / 2 + 128 * c) &&& 85 = (b / 2) &&& 85 := by decide +kernel
theorem by_d2 : ∀ b, b < 256 → ∀ c, c < 4 → (b / 4 + 64 * c) &&& 51 = (b / 4) &&& 51 := by decide +kernel
def by_g1 (b : Nat) : Nat := b - ((b / 2) &&& 85)
def by_g2 (b : Nat) : Nat := (b &&& 51) + ((b / 4) &&& 51)
def by_p (b : Nat) : Nat := pu_cnt (fun j => b.testBit j) 8 0
theorem by_p_le (b : Nat) : by_p b ≤ 8 := pu_cnt_le _ 8 0
theorem by_d3 : ∀ b, b < 256 → ((b / 2) &&& 85) ≤ b ∧ by_g1 b < 256 ∧ by_g2 (by_g1 b) ≤ 68 ∧ by_g2 (by_g1 b) % 16 ≤ 4 := by decide +kernel
theorem by_d4 : ∀ b, b < 256 → ∀ c, c < 5 → (by_g2 (by_g1 b) + by_g2 (by_g1 b) / 16 + 16 * c) &&& 15 = by_p b := by decide +kernel
theorem by_d5 : ∀ b, b < 256 → (by_g2 (by_g1 b) + by_g2 (by_g1 b) / 16) &&& 15 = by_p b := by decide +kernel
theorem by_e (n : Nat) (hn : n < 18446744073709551616) : n = by8 (n % 256) (n / 256 % 256) (n / 65536 % 256) (n / 16777216 % 256) (n / 4294967296 % 256) (n / 1099511627776 % 256) (n / 281474976710656 % 256) (n / 72057594037927936 % 256) := by
  unfold by8
  omega
theorem by_shift (P : Nat → Bool) (s : Nat) : ∀ (k i : Nat), pu_cnt P k (i + s) = pu_cnt (fun j => P (j + s)) k i := by
  intro k
  induction k with
  | zero => intro i; rfl
  | succ k ih =>
    intro i
    simp only [pu_cnt]
    rw [show i + s + 1 = (i + 1) + s by omega, ih (i + 1)]
theorem by_part (n i : Nat) : pu_cnt (fun j => n.testBit j) 8 (8 * i) = by_p (n / 2 ^ (8 * i) % 256) := by
  have e := by_shift (fun j => n.testBit j) (8 * i) 8 0
  rw [Nat.zero_add] at e
  rw [e]
  unfold by_p
  refine pu_cnt_congr 8 0 (fun j _ h => ?_)
  rw [show (256 : Nat) = 2 ^ 8 from rfl, Nat.testBit_mod_two_pow, Nat.testBit_div_two_pow]
  simp [show j < 8 by omega]
theorem by_all (n : Nat) : pu_cnt (fun j => n.testBit j) 64 0 = by_p (n % 256) + by_p (n / 256 % 256) + by_p (n / 65536 % 256) + by_p (n / 16777216 % 256) + by_p (n / 4294967296 % 256) + by_p (n / 1099511627776 % 256) + by_p (n / 281474976710656 % 256) + by_p (n / 72057594037927936 % 256) := by
  have h0 := by_part n 0
  have h1 := by_part n 1
  have h2 := by_part n 2
  have h3 := by_part n 3
  have h4 := by_part n 4
  have h5 := by_part n 5
  have h6 := by_part n 6
  have h7 := by_part n 7
  simp only [Nat.reduceMul, Nat.reducePow, Nat.div_one] at h0 h1 h2 h3 h4 h5 h6 h7
  have a0 : pu_cnt (fun j => n.testBit j) 64 0 = pu_cnt (fun j => n.testBit j) 8 0 + pu_cnt (fun j => n.testBit j) 56 8 := pu_cnt_add (fun j => n.testBit j) 8 56 0
  have a1 : pu_cnt (fun j => n.testBit j) 56 8 = pu_cnt (fun j => n.testBit j) 8 8 + pu_cnt (fun j => n.testBit j) 48 16 := pu_cnt_add (fun j => n.testBit j) 8 48 8
  have a2 : pu_cnt (fun j => n.testBit j) 48 16 = pu_cnt (fun j => n.testBit j) 8 16 + pu_cnt (fun j => n.testBit j) 40 24 := pu_cnt_add (fun j => n.testBit j) 8 40 16
  have a3 : pu_cnt (fun j => n.testBit j) 40 24 = pu_cnt (fun j => n.testBit j) 8 24 + pu_cnt (fun j => n.testBit j) 32 32 := pu_cnt_add (fun j => n.testBit j) 8 32 24
  have a4 : pu_cnt (fun j => n.testBit j) 32 32 = pu_cnt (fun j => n.testBit j) 8 32 + pu_cnt (fun j => n.testBit j) 24 40 := pu_cnt_add (fun j => n.testBit j) 8 24 32
  have a5 : pu_cnt (fun j => n.testBit j) 24 40 = pu_cnt (fun j => n.testBit j) 8 40 + pu_cnt (fun j => n.testBit j) 16 48 := pu_cnt_add (fun j => n.testBit j) 8 16 40
  have a6 : pu_cnt (fun j => n.testBit j) 16 48 = pu_cnt (fun j => n.testBit j) 8 48 + pu_cnt (fun j => n.testBit j) 8 56 := pu_cnt_add (fun j => n.testBit j) 8 8 48
  rw [a0, a1, a2, a3, a4, a5, a6, h0, h1, h2, h3, h4, h5, h6, h7]
  omega
/-- the five steps on the eight bytes -/
theorem by_s1 {a b c d e f g h : Nat} (ha : a < 256) (hb : b < 256) (hc : c < 256) (hd : d < 256) (he : e < 256) (hf : f < 256) (hg : g < 256) (hh : h < 256) :
    by8 a b c d e f g h - ((by8 a b c d e f g h / 2) &&& 6148914691236517205) = by8 (by_g1 a) (by_g1 b) (by_g1 c) (by_g1 d) (by_g1 e) (by_g1 f) (by_g1 g) (by_g1 h) := by
  have e1 : by8 a b c d e f g h / 2 = by8 (a / 2 + 128 * (b % 2)) (b / 2 + 128 * (c % 2)) (c / 2 + 128 * (d % 2)) (d / 2 + 128 * (e % 2)) (e / 2 + 128 * (f % 2)) (f / 2 + 128 * (g % 2)) (g / 2 + 128 * (h % 2)) (h / 2 + 128 * 0) := by
    unfold by8; omega
  rw [e1, show (6148914691236517205 : Nat) = by8 85 85 85 85 85 85 85 85 from rfl, by8_and (by omega) (by omega) (by omega) (by omega) (by omega) (by omega) (by omega) (by decide)]
  rw [by_d1 a ha (b % 2) (by omega), by_d1 b hb (c % 2) (by omega), by_d1 c hc (d % 2) (by omega), by_d1 d hd (e % 2) (by omega), by_d1 e he (f % 2) (by omega), by_d1 f hf (g % 2) (by omega), by_d1 g hg (h % 2) (by omega), by_d1 h hh 0 (by omega)]
  have a1 := (by_d3 a ha).1
  have a2 := (by_d3 b hb).1
  have a3 := (by_d3 c hc).1
  have a4 := (by_d3 d hd).1
  have a5 := (by_d3 e he).1
  have a6 := (by_d3 f hf).1
  have a7 := (by_d3 g hg).1
  have a8 := (by_d3 h hh).1
  unfold by8 by_g1
  generalize (a / 2) &&& 85 = x1 at *
  generalize (b / 2) &&& 85 = x2 at *
  generalize (c / 2) &&& 85 = x3 at *
  generalize (d / 2) &&& 85 = x4 at *
  generalize (e / 2) &&& 85 = x5 at *
  generalize (f / 2) &&& 85 = x6 at *
  generalize (g / 2) &&& 85 = x7 at *
  generalize (h / 2) &&& 85 = x8 at *
  omega
theorem by_s2 {a b c d e f g h : Nat} (ha : a < 256) (hb : b < 256) (hc : c < 256) (hd : d < 256) (he : e < 256) (hf : f < 256) (hg : g < 256) (hh : h < 256) :
    (by8 a b c d e f g h &&& 3689348814741910323) + ((by8 a b c d e f g h / 4) &&& 3689348814741910323) = by8 (by_g2 a) (by_g2 b) (by_g2 c) (by_g2 d) (by_g2 e) (by_g2 f) (by_g2 g) (by_g2 h) := by
  have e1 : by8 a b c d e f g h / 4 = by8 (a / 4 + 64 * (b % 4)) (b / 4 + 64 * (c % 4)) (c / 4 + 64 * (d % 4)) (d / 4 + 64 * (e % 4)) (e / 4 + 64 * (f % 4)) (f / 4 + 64 * (g % 4)) (g / 4 + 64 * (h % 4)) (h / 4 + 64 * 0) := by
    unfold by8; omega
  rw [e1, show (3689348814741910323 : Nat) = by8 51 51 51 51 51 51 51 51 from rfl, by8_and (by omega) (by omega) (by omega) (by omega) (by omega) (by omega) (by omega) (by decide), by8_and (by omega) (by omega) (by omega) (by omega) (by omega) (by omega) (by omega) (by decide)]
  rw [by_d2 a ha (b % 4) (by omega), by_d2 b hb (c % 4) (by omega), by_d2 c hc (d % 4) (by omega), by_d2 d hd (e % 4) (by omega), by_d2 e he (f % 4) (by omega), by_d2 f hf (g % 4) (by omega), by_d2 g hg (h % 4) (by omega), by_d2 h hh 0 (by omega)]
  unfold by8 by_g2
  omega
theorem by_s3 {a b c d e f g h : Nat} (ha : a < 256) (hb : b < 256) (hc : c < 256) (hd : d < 256) (he : e < 256) (hf : f < 256) (hg : g < 256) (hh : h < 256) :
    (by8 (by_g2 (by_g1 a)) (by_g2 (by_g1 b)) (by_g2 (by_g1 c)) (by_g2 (by_g1 d)) (by_g2 (by_g1 e)) (by_g2 (by_g1 f)) (by_g2 (by_g1 g)) (by_g2 (by_g1 h)) + by8 (by_g2 (by_g1 a)) (by_g2 (by_g1 b)) (by_g2 (by_g1 c)) (by_g2 (by_g1 d)) (by_g2 (by_g1 e)) (by_g2 (by_g1 f)) (by_g2 (by_g1 g)) (by_g2 (by_g1 h)) / 16) &&& 1085102592571150095 = by8 (by_p a) (by_p b) (by_p c) (by_p d) (by_p e) (by_p f) (by_p g) (by_p h) := by
  have a1 := (by_d3 a ha).2.2
  have a2 := (by_d3 b hb).2.2
  have a3 := (by_d3 c hc).2.2
  have a4 := (by_d3 d hd).2.2
  have a5 := (by_d3 e he).2.2
  have a6 := (by_d3 f hf).2.2
  have a7 := (by_d3 g hg).2.2
  have a8 := (by_d3 h hh).2.2
  have d1 := fun x hx => by_d4 a ha x hx
  have d2 := fun x hx => by_d4 b hb x hx
  have d3 := fun x hx => by_d4 c hc x hx
  have d4 := fun x hx => by_d4 d hd x hx
  have d5 := fun x hx => by_d4 e he x hx
  have d6 := fun x hx => by_d4 f hf x hx
  have d7 := fun x hx => by_d4 g hg x hx
  have d8 := fun x hx => by_d4 h hh x hx
  generalize by_g2 (by_g1 a) = x1 at *
  generalize by_g2 (by_g1 b) = x2 at *
  generalize by_g2 (by_g1 c) = x3 at *
  generalize by_g2 (by_g1 d) = x4 at *
  generalize by_g2 (by_g1 e) = x5 at *
  generalize by_g2 (by_g1 f) = x6 at *
  generalize by_g2 (by_g1 g) = x7 at *
  generalize by_g2 (by_g1 h) = x8 at *
  have e1 : by8 x1 x2 x3 x4 x5 x6 x7 x8 + by8 x1 x2 x3 x4 x5 x6 x7 x8 / 16 = by8 (x1 + x1 / 16 + 16 * (x2 % 16)) (x2 + x2 / 16 + 16 * (x3 % 16)) (x3 + x3 / 16 + 16 * (x4 % 16)) (x4 + x4 / 16 + 16 * (x5 % 16)) (x5 + x5 / 16 + 16 * (x6 % 16)) (x6 + x6 / 16 + 16 * (x7 % 16)) (x7 + x7 / 16 + 16 * (x8 % 16)) (x8 + x8 / 16 + 16 * 0) := by
    unfold by8; omega
  rw [e1, show (1085102592571150095 : Nat) = by8 15 15 15 15 15 15 15 15 from rfl, by8_and (by omega) (by omega) (by omega) (by omega) (by omega) (by omega) (by omega) (by decide)]
  rw [d1 _ (by omega), d2 _ (by omega), d3 _ (by omega), d4 _ (by omega), d5 _ (by omega), d6 _ (by omega), d7 _ (by omega), d8 _ (by omega)]
theorem by8_d1 {a b c d e f g h : Nat} (ha : a < 256) : by8 a b c d e f g h / 256 = by8 b c d e f g h 0 := by
  unfold by8; omega
theorem by8_d2 {a b c d e f g h : Nat} (ha : a < 256) (hb : b < 256) : by8 a b c d e f g h / 65536 = by8 c d e f g h 0 0 := by
  rw [show (65536 : Nat) = 256 * 256 from rfl, ← Nat.div_div_eq_div_mul, by8_d1 ha, by8_d1 hb]
theorem by8_d4 {a b c d e f g h : Nat} (ha : a < 256) (hb : b < 256) (hc : c < 256) (hd : d < 256) : by8 a b c d e f g h / 4294967296 = by8 e f g h 0 0 0 0 := by
  rw [show (4294967296 : Nat) = 65536 * 65536 from rfl, ← Nat.div_div_eq_div_mul, by8_d2 ha hb, by8_d2 hc hd]
theorem by8_add (a b c d e f g h a' b' c' d' e' f' g' h' : Nat) : by8 a b c d e f g h + by8 a' b' c' d' e' f' g' h' = by8 (a + a') (b + b') (c + c') (d + d') (e + e') (f + f') (g + g') (h + h') := by
  unfold by8; omega
theorem by8_lt {a b c d e f g h : Nat} (ha : a < 256) (hb : b < 256) (hc : c < 256) (hd : d < 256) (he : e < 256) (hf : f < 256) (hg : g < 256) (hh : h < 256) : by8 a b c d e f g h < 18446744073709551616 := by
  unfold by8; omega
theorem by_s4 {a b c d e f g h n1 n2 n3 : Nat} (ha : a ≤ 8) (hb : b ≤ 8) (hc : c ≤ 8) (hd : d ≤ 8) (he : e ≤ 8) (hf : f ≤ 8) (hg : g ≤ 8) (hh : h ≤ 8)
    (e1 : n1 = (by8 a b c d e f g h + by8 a b c d e f g h / 256) % 18446744073709551616) (e2 : n2 = (n1 + n1 / 65536) % 18446744073709551616) (e3 : n3 = (n2 + n2 / 4294967296) % 18446744073709551616) :
    n3 % 128 = a + b + c + d + e + f + g + h := by
  have f1 : n1 = by8 (a + b) (b + c) (c + d) (d + e) (e + f) (f + g) (g + h) (h + 0) := by
    rw [e1, by8_d1 (by omega), by8_add, Nat.mod_eq_of_lt (by8_lt (by omega) (by omega) (by omega) (by omega) (by omega) (by omega) (by omega) (by omega))]
  have f2 : n2 = by8 (a + b + (c + d)) (b + c + (d + e)) (c + d + (e + f)) (d + e + (f + g)) (e + f + (g + h)) (f + g + (h + 0)) (g + h + 0) (h + 0 + 0) := by
    rw [e2, f1, by8_d2 (by omega) (by omega), by8_add, Nat.mod_eq_of_lt (by8_lt (by omega) (by omega) (by omega) (by omega) (by omega) (by omega) (by omega) (by omega))]
  have f3 : n3 = by8 (a + b + (c + d) + (e + f + (g + h))) (b + c + (d + e) + (f + g + (h + 0))) (c + d + (e + f) + (g + h + 0)) (d + e + (f + g) + (h + 0 + 0)) (e + f + (g + h) + 0) (f + g + (h + 0) + 0) (g + h + 0 + 0) (h + 0 + 0 + 0) := by
    rw [e3, f2, by8_d4 (by omega) (by omega) (by omega) (by omega), by8_add, Nat.mod_eq_of_lt (by8_lt (by omega) (by omega) (by omega) (by omega) (by omega) (by omega) (by omega) (by omega))]
  clear e1 e2 e3 f1 f2
  rw [f3]
  unfold by8
  omega
theorem i32_of (x : Int64) : x.toInt32.toBitVec.toNat = ux x % 4294967296 := by
  have e : x.toInt32.toBitVec = x.toBitVec.signExtend 32 := rfl
  rw [e, BitVec.signExtend_eq_setWidth_of_le _ (by decide), BitVec.toNat_setWidth]
  rfl
set_option maxHeartbeats 4000000 in
theorem bc1_ok {x : Int64} {a b c d e f g h : Nat} (ha : a < 256) (hb : b < 256) (hc : c < 256) (hd : d < 256) (he : e < 256) (hf : f < 256) (hg : g < 256) (hh : h < 256) (hE : ux x = by8 a b c d e f g h) : ux (bc1 x) = by8 (by_g1 a) (by_g1 b) (by_g1 c) (by_g1 d) (by_g1 e) (by_g1 f) (by_g1 g) (by_g1 h) := by
  unfold bc1
  rw [ux_sub, ux_and, ux_lsr x 1 (by decide), show ux 6148914691236517205 = 6148914691236517205 from rfl, Nat.pow_one]
  have q := by_s1 ha hb hc hd he hf hg hh
  rw [← hE] at q
  have q2 : (ux x / 2 &&& 6148914691236517205) ≤ ux x / 2 := Nat.and_le_left
  have hn := ux_lt x
  rw [← q]
  generalize (ux x / 2 &&& 6148914691236517205) = z at *
  clear q
  omega
set_option maxHeartbeats 4000000 in
theorem bc2_ok {y : Int64} {a b c d e f g h : Nat} (ha : a < 256) (hb : b < 256) (hc : c < 256) (hd : d < 256) (he : e < 256) (hf : f < 256) (hg : g < 256) (hh : h < 256) (s1 : ux y = by8 (by_g1 a) (by_g1 b) (by_g1 c) (by_g1 d) (by_g1 e) (by_g1 f) (by_g1 g) (by_g1 h)) : ux (bc2 y) = by8 (by_g2 (by_g1 a)) (by_g2 (by_g1 b)) (by_g2 (by_g1 c)) (by_g2 (by_g1 d)) (by_g2 (by_g1 e)) (by_g2 (by_g1 f)) (by_g2 (by_g1 g)) (by_g2 (by_g1 h)) := by
  unfold bc2
  rw [ux_add, ux_and, ux_and, ux_lsr y 2 (by decide), show ux 3689348814741910323 = 3689348814741910323 from rfl, s1, show (2 : Nat) ^ 2 = 4 from rfl]
  rw [by_s2 (by_d3 a ha).2.1 (by_d3 b hb).2.1 (by_d3 c hc).2.1 (by_d3 d hd).2.1 (by_d3 e he).2.1 (by_d3 f hf).2.1 (by_d3 g hg).2.1 (by_d3 h hh).2.1]
  have qa := (by_d3 a ha).2.2.1
  have qb := (by_d3 b hb).2.2.1
  have qc := (by_d3 c hc).2.2.1
  have qd := (by_d3 d hd).2.2.1
  have qe := (by_d3 e he).2.2.1
  have qf := (by_d3 f hf).2.2.1
  have qg := (by_d3 g hg).2.2.1
  have qh := (by_d3 h hh).2.2.1
  refine Nat.mod_eq_of_lt (by8_lt (by omega) (by omega) (by omega) (by omega) (by omega) (by omega) (by omega) (by omega))
set_option maxHeartbeats 4000000 in
theorem bc3_ok {y : Int64} {a b c d e f g h : Nat} (ha : a < 256) (hb : b < 256) (hc : c < 256) (hd : d < 256) (he : e < 256) (hf : f < 256) (hg : g < 256) (hh : h < 256) (s2 : ux y = by8 (by_g2 (by_g1 a)) (by_g2 (by_g1 b)) (by_g2 (by_g1 c)) (by_g2 (by_g1 d)) (by_g2 (by_g1 e)) (by_g2 (by_g1 f)) (by_g2 (by_g1 g)) (by_g2 (by_g1 h))) : ux (bc3 y) = by8 (by_p a) (by_p b) (by_p c) (by_p d) (by_p e) (by_p f) (by_p g) (by_p h) := by
  unfold bc3
  rw [ux_and, ux_add, ux_lsr y 4 (by decide), show ux 1085102592571150095 = 1085102592571150095 from rfl, s2, show (2 : Nat) ^ 4 = 16 from rfl, ← by_s3 ha hb hc hd he hf hg hh]
  have qa := (by_d3 a ha).2.2.1
  have qb := (by_d3 b hb).2.2.1
  have qc := (by_d3 c hc).2.2.1
  have qd := (by_d3 d hd).2.2.1
  have qe := (by_d3 e he).2.2.1
  have qf := (by_d3 f hf).2.2.1
  have qg := (by_d3 g hg).2.2.1
  have qh := (by_d3 h hh).2.2.1
  have hl : by8 (by_g2 (by_g1 a)) (by_g2 (by_g1 b)) (by_g2 (by_g1 c)) (by_g2 (by_g1 d)) (by_g2 (by_g1 e)) (by_g2 (by_g1 f)) (by_g2 (by_g1 g)) (by_g2 (by_g1 h)) < 1000000000000000000 * 5 := by
    generalize by_g2 (by_g1 a) = x1 at *
    generalize by_g2 (by_g1 b) = x2 at *
    generalize by_g2 (by_g1 c) = x3 at *
    generalize by_g2 (by_g1 d) = x4 at *
    generalize by_g2 (by_g1 e) = x5 at *
    generalize by_g2 (by_g1 f) = x6 at *
    generalize by_g2 (by_g1 g) = x7 at *
    generalize by_g2 (by_g1 h) = x8 at *
    clear s2
    unfold by8
    omega
  generalize by8 (by_g2 (by_g1 a)) (by_g2 (by_g1 b)) (by_g2 (by_g1 c)) (by_g2 (by_g1 d)) (by_g2 (by_g1 e)) (by_g2 (by_g1 f)) (by_g2 (by_g1 g)) (by_g2 (by_g1 h)) = z at *
  clear s2
  rw [Nat.mod_eq_of_lt (by omega)]
set_option maxHeartbeats 4000000 in
theorem bc6_ok {y : Int64} {a b c d e f g h : Nat} (ha : a ≤ 8) (hb : b ≤ 8) (hc : c ≤ 8) (hd : d ≤ 8) (he : e ≤ 8) (hf : f ≤ 8) (hg : g ≤ 8) (hh : h ≤ 8) (s3 : ux y = by8 a b c d e f g h) : ux (bc6 (bc5 (bc4 y))) % 128 = a + b + c + d + e + f + g + h := by
  refine by_s4 (n1 := ux (bc4 y)) (n2 := ux (bc5 (bc4 y))) ha hb hc hd he hf hg hh ?_ ?_ ?_
  · unfold bc4
    rw [ux_add, ux_lsr y 8 (by decide), s3]
  · generalize bc4 y = z
    unfold bc5
    rw [ux_add, ux_lsr z 16 (by decide)]
  · generalize bc5 (bc4 y) = z
    unfold bc6
    rw [ux_add, ux_lsr z 32 (by decide)]
set_option maxHeartbeats 4000000 in
theorem bcv_ok (x : Int64) : bcv x = nI (pu_cnt (lb x) 64 0) := by
  unfold bcv
  have hn := ux_lt x
  rw [show pu_cnt (lb x) 64 0 = pu_cnt (fun j => (ux x).testBit j) 64 0 from rfl, by_all]
  have s1 := bc1_ok (Nat.mod_lt _ (by decide)) (Nat.mod_lt _ (by decide)) (Nat.mod_lt _ (by decide)) (Nat.mod_lt _ (by decide)) (Nat.mod_lt _ (by decide)) (Nat.mod_lt _ (by decide)) (Nat.mod_lt _ (by decide)) (Nat.mod_lt _ (by decide)) (by_e (ux x) hn)
  have s2 := bc2_ok (Nat.mod_lt _ (by decide)) (Nat.mod_lt _ (by decide)) (Nat.mod_lt _ (by decide)) (Nat.mod_lt _ (by decide)) (Nat.mod_lt _ (by decide)) (Nat.mod_lt _ (by decide)) (Nat.mod_lt _ (by decide)) (Nat.mod_lt _ (by decide)) s1
  have s3 := bc3_ok (Nat.mod_lt _ (by decide)) (Nat.mod_lt _ (by decide)) (Nat.mod_lt _ (by decide)) (Nat.mod_lt _ (by decide)) (Nat.mod_lt _ (by decide)) (Nat.mod_lt _ (by decide)) (Nat.mod_lt _ (by decide)) (Nat.mod_lt _ (by decide)) s2
  have s6 := bc6_ok (by_p_le _) (by_p_le _) (by_p_le _) (by_p_le _) (by_p_le _) (by_p_le _) (by_p_le _) (by_p_le _) s3
  rw [pk_and _ 7 (by decide), i32_of, ← s6]
  congr 1
  omega
/-- of a set of ports 1 .. n alone, the count is that of 1 .. n -/
theorem lb_cnt {x : Int64} {n : Nat} (hn : n ≤ 62) (h0 : lb x 0 = false) (hx : ∀ j, n < j → lb x j = false) : pu_cnt (lb x) 64 0 = pu_cnt (lb x) n 1 := by
  have e : (64 : Nat) = 1 + (n + (63 - n)) := by omega
  rw [e, pu_cnt_add, pu_cnt_add]
  rw [pu_cnt_none (P := lb x) 1 0 (fun j h1 h2 => by rw [show j = 0 by omega]; exact h0), pu_cnt_none (P := lb x) (63 - n) (0 + 1 + n) (fun j h1 h2 => hx j (by omega))]
  simp
