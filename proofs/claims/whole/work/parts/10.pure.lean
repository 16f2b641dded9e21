/-! PURE: counting, finding, the closure (no machine) -/
/-- how many of the k numbers from i on have P -/
def pu_cnt (P : Nat → Bool) : Nat → Nat → Nat
  | 0, _ => 0
  | k + 1, i => (if P i then 1 else 0) + pu_cnt P k (i + 1)
/-- the first of the k numbers from i on with P, or 0 -/
def pu_fst (P : Nat → Bool) : Nat → Nat → Nat
  | 0, _ => 0
  | k + 1, i => if P i then i else pu_fst P k (i + 1)
/-- the n-th (from 0) of the k numbers from i on with P, or 0 -/
def pu_nth (P : Nat → Bool) : Nat → Nat → Nat → Nat
  | 0, _, _ => 0
  | k + 1, i, n => if P i then (if n = 0 then i else pu_nth P k (i + 1) (n - 1)) else pu_nth P k (i + 1) n
def pu_sum (f : Nat → Nat) : Nat → Nat → Nat
  | 0, _ => 0
  | k + 1, i => f i + pu_sum f k (i + 1)
/-- the left-th pair, by rows p, as 61 p + q; 0 if there is none -/
def pu_at (F : Nat → Nat → Bool) (n : Nat) : Nat → Nat → Nat → Nat
  | 0, _, _ => 0
  | k + 1, p, left => if left < pu_cnt (F p) n 1 then 61 * p + pu_nth (F p) n 1 left else pu_at F n k (p + 1) (left - pu_cnt (F p) n 1)
/-- the second one of the first pair with P, or 0 -/
def pu_fst2 (P : Nat → Nat → Bool) (n : Nat) : Nat → Nat → Nat
  | 0, _ => 0
  | k + 1, p => if pu_fst (P p) n 1 = 0 then pu_fst2 P n k (p + 1) else pu_fst (P p) n 1
/-- the first rule that is broken: b r is the number that it names, 0 for none -/
def pu_chk (b : Nat → Nat) : Nat → Nat → Nat
  | 0, _ => 0
  | k + 1, r => if b r = 0 then pu_chk b k (r + 1) else 1000 * r + b r
/-! one step -/
theorem pu_cnt_t {P : Nat → Bool} {k i : Nat} (h : P i = true) : pu_cnt P (k + 1) i = 1 + pu_cnt P k (i + 1) := by simp [pu_cnt, h]
theorem pu_cnt_f {P : Nat → Bool} {k i : Nat} (h : P i = false) : pu_cnt P (k + 1) i = pu_cnt P k (i + 1) := by simp [pu_cnt, h]
theorem pu_fst_t {P : Nat → Bool} {k i : Nat} (h : P i = true) : pu_fst P (k + 1) i = i := by simp [pu_fst, h]
theorem pu_fst_f {P : Nat → Bool} {k i : Nat} (h : P i = false) : pu_fst P (k + 1) i = pu_fst P k (i + 1) := by simp [pu_fst, h]
theorem pu_nth_t {P : Nat → Bool} {k i n : Nat} (h : P i = true) (hn : n = 0) : pu_nth P (k + 1) i n = i := by simp [pu_nth, h, hn]
theorem pu_nth_n {P : Nat → Bool} {k i n : Nat} (h : P i = true) (hn : n ≠ 0) : pu_nth P (k + 1) i n = pu_nth P k (i + 1) (n - 1) := by simp [pu_nth, h, hn]
theorem pu_nth_f {P : Nat → Bool} {k i n : Nat} (h : P i = false) : pu_nth P (k + 1) i n = pu_nth P k (i + 1) n := by simp [pu_nth, h]
theorem pu_fst2_n {P : Nat → Nat → Bool} {n k p : Nat} (h : pu_fst (P p) n 1 = 0) : pu_fst2 P n (k + 1) p = pu_fst2 P n k (p + 1) := by simp [pu_fst2, h]
theorem pu_fst2_y {P : Nat → Nat → Bool} {n k p j : Nat} (h : pu_fst (P p) n 1 = j) (hj : j ≠ 0) : pu_fst2 P n (k + 1) p = j := by simp [pu_fst2, h, hj]
theorem pu_chk_n {b : Nat → Nat} {k r : Nat} (h : b r = 0) : pu_chk b (k + 1) r = pu_chk b k (r + 1) := by simp [pu_chk, h]
theorem pu_chk_y {b : Nat → Nat} {k r z : Nat} (h : b r = z) (hz : z ≠ 0) : pu_chk b (k + 1) r = 1000 * r + z := by simp [pu_chk, h, hz]
theorem pu_at_y {F : Nat → Nat → Bool} {n k p t : Nat} (h : t < pu_cnt (F p) n 1) : pu_at F n (k + 1) p t = 61 * p + pu_nth (F p) n 1 t := by simp [pu_at, h]
theorem pu_at_n {F : Nat → Nat → Bool} {n k p t : Nat} (h : ¬ t < pu_cnt (F p) n 1) : pu_at F n (k + 1) p t = pu_at F n k (p + 1) (t - pu_cnt (F p) n 1) := by simp [pu_at, h]
theorem pu_cnt_le (P : Nat → Bool) : ∀ (k i : Nat), pu_cnt P k i ≤ k := by
  intro k
  induction k with
  | zero => intro i; exact Nat.le_refl 0
  | succ k ih =>
    intro i
    have h := ih (i + 1)
    simp only [pu_cnt]
    split <;> omega
theorem pu_cnt_congr {P Q : Nat → Bool} : ∀ (k i : Nat), (∀ j, i ≤ j → j < i + k → P j = Q j) → pu_cnt P k i = pu_cnt Q k i := by
  intro k
  induction k with
  | zero => intro i _; rfl
  | succ k ih =>
    intro i h
    simp only [pu_cnt]
    rw [h i (Nat.le_refl i) (by omega), ih (i + 1) (fun j h1 h2 => h j (by omega) (by omega))]
theorem pu_cnt_none {P : Nat → Bool} : ∀ (k i : Nat), (∀ j, i ≤ j → j < i + k → P j = false) → pu_cnt P k i = 0 := by
  intro k
  induction k with
  | zero => intro i _; rfl
  | succ k ih =>
    intro i h
    simp only [pu_cnt]
    rw [h i (Nat.le_refl i) (by omega), ih (i + 1) (fun j h1 h2 => h j (by omega) (by omega))]
    rfl
theorem pu_cnt_add (P : Nat → Bool) : ∀ (k l i : Nat), pu_cnt P (k + l) i = pu_cnt P k i + pu_cnt P l (i + k) := by
  intro k
  induction k with
  | zero => intro l i; simp [pu_cnt]
  | succ k ih =>
    intro l i
    rw [show k + 1 + l = (k + l) + 1 by omega]
    simp only [pu_cnt]
    rw [ih l (i + 1), show i + 1 + k = i + (k + 1) by omega]
    omega
theorem pu_fst_congr {P Q : Nat → Bool} : ∀ (k i : Nat), (∀ j, i ≤ j → j < i + k → P j = Q j) → pu_fst P k i = pu_fst Q k i := by
  intro k
  induction k with
  | zero => intro i _; rfl
  | succ k ih =>
    intro i h
    simp only [pu_fst]
    rw [h i (Nat.le_refl i) (by omega), ih (i + 1) (fun j h1 h2 => h j (by omega) (by omega))]
theorem pu_fst_lt (P : Nat → Bool) : ∀ (k i : Nat), pu_fst P k i < i + k ∨ pu_fst P k i = 0 := by
  intro k
  induction k with
  | zero => intro i; exact Or.inr rfl
  | succ k ih =>
    intro i
    simp only [pu_fst]
    split
    · exact Or.inl (by omega)
    · rcases ih (i + 1) with h | h
      · exact Or.inl (by omega)
      · exact Or.inr h
theorem pu_nth_congr {P Q : Nat → Bool} : ∀ (k i n : Nat), (∀ j, i ≤ j → j < i + k → P j = Q j) → pu_nth P k i n = pu_nth Q k i n := by
  intro k
  induction k with
  | zero => intro i n _; rfl
  | succ k ih =>
    intro i n h
    simp only [pu_nth]
    rw [h i (Nat.le_refl i) (by omega), ih (i + 1) n (fun j h1 h2 => h j (by omega) (by omega)), ih (i + 1) (n - 1) (fun j h1 h2 => h j (by omega) (by omega))]
theorem pu_nth_none {P : Nat → Bool} : ∀ (k i n : Nat), pu_cnt P k i ≤ n → pu_nth P k i n = 0 := by
  intro k
  induction k with
  | zero => intro i n _; rfl
  | succ k ih =>
    intro i n h
    simp only [pu_cnt] at h
    simp only [pu_nth]
    by_cases hp : P i = true
    · rw [if_pos hp] at h ⊢
      rw [if_neg (by omega)]
      exact ih (i + 1) (n - 1) (by omega)
    · rw [if_neg hp] at h ⊢
      exact ih (i + 1) n (by omega)
theorem pu_nth_in {P : Nat → Bool} : ∀ (k i n : Nat), n < pu_cnt P k i → i ≤ pu_nth P k i n ∧ pu_nth P k i n < i + k := by
  intro k
  induction k with
  | zero => intro i n h; simp [pu_cnt] at h
  | succ k ih =>
    intro i n h
    simp only [pu_cnt] at h
    simp only [pu_nth]
    by_cases hp : P i = true
    · rw [if_pos hp] at h ⊢
      by_cases hn : n = 0
      · rw [if_pos hn]; omega
      · rw [if_neg hn]
        have := ih (i + 1) (n - 1) (by omega)
        omega
    · rw [if_neg hp] at h ⊢
      have := ih (i + 1) n (by omega)
      omega
theorem pu_sum_congr {f g : Nat → Nat} : ∀ (k i : Nat), (∀ j, i ≤ j → j < i + k → f j = g j) → pu_sum f k i = pu_sum g k i := by
  intro k
  induction k with
  | zero => intro i _; rfl
  | succ k ih =>
    intro i h
    simp only [pu_sum]
    rw [h i (Nat.le_refl i) (by omega), ih (i + 1) (fun j h1 h2 => h j (by omega) (by omega))]
theorem pu_sum_le {f : Nat → Nat} {b : Nat} (hf : ∀ j, f j ≤ b) : ∀ (k i : Nat), pu_sum f k i ≤ k * b := by
  intro k
  induction k with
  | zero => intro i; exact Nat.zero_le _
  | succ k ih =>
    intro i
    have h1 := ih (i + 1)
    have h2 := hf i
    simp only [pu_sum]
    rw [Nat.succ_mul]
    omega
theorem pu_at_congr {F G : Nat → Nat → Bool} {n : Nat} : ∀ (k p left : Nat), (∀ a b, p ≤ a → a < p + k → 1 ≤ b → b < 1 + n → F a b = G a b) → pu_at F n k p left = pu_at G n k p left := by
  intro k
  induction k with
  | zero => intro p left _; rfl
  | succ k ih =>
    intro p left h
    have e1 : pu_cnt (F p) n 1 = pu_cnt (G p) n 1 := pu_cnt_congr n 1 (fun j h1 h2 => h p j (Nat.le_refl p) (by omega) h1 h2)
    have e2 : pu_nth (F p) n 1 left = pu_nth (G p) n 1 left := pu_nth_congr n 1 left (fun j h1 h2 => h p j (Nat.le_refl p) (by omega) h1 h2)
    simp only [pu_at]
    rw [e1, e2, ih (p + 1) _ (fun a b h1 h2 => h a b (by omega) (by omega))]
theorem pu_at_in {F : Nat → Nat → Bool} {n : Nat} : ∀ (k p left : Nat), pu_at F n k p left = 0 ∨ ∃ a b, p ≤ a ∧ a < p + k ∧ 1 ≤ b ∧ b < 1 + n ∧ pu_at F n k p left = 61 * a + b := by
  intro k
  induction k with
  | zero => intro p left; exact Or.inl rfl
  | succ k ih =>
    intro p left
    simp only [pu_at]
    split
    · rename_i h
      have h2 := pu_nth_in n 1 left h
      exact Or.inr ⟨p, _, Nat.le_refl p, by omega, h2.1, h2.2, rfl⟩
    · rcases ih (p + 1) (left - pu_cnt (F p) n 1) with h | ⟨a, b, h1, h2, h3, h4, h5⟩
      · exact Or.inl h
      · exact Or.inr ⟨a, b, by omega, by omega, h3, h4, h5⟩
theorem pu_fst2_congr {P Q : Nat → Nat → Bool} {n : Nat} : ∀ (k p : Nat), (∀ a b, p ≤ a → a < p + k → 1 ≤ b → b < 1 + n → P a b = Q a b) → pu_fst2 P n k p = pu_fst2 Q n k p := by
  intro k
  induction k with
  | zero => intro p _; rfl
  | succ k ih =>
    intro p h
    have e1 : pu_fst (P p) n 1 = pu_fst (Q p) n 1 := pu_fst_congr n 1 (fun j h1 h2 => h p j (Nat.le_refl p) (by omega) h1 h2)
    simp only [pu_fst2]
    rw [e1, ih (p + 1) (fun a b h1 h2 => h a b (by omega) (by omega))]
theorem pu_fst2_lt (P : Nat → Nat → Bool) (n : Nat) : ∀ (k p : Nat), pu_fst2 P n k p ≤ n := by
  intro k
  induction k with
  | zero => intro p; exact Nat.zero_le n
  | succ k ih =>
    intro p
    simp only [pu_fst2]
    split
    · exact ih (p + 1)
    · rcases pu_fst_lt (P p) n 1 with h | h
      · omega
      · omega
theorem pu_chk_congr {b c : Nat → Nat} : ∀ (k r : Nat), (∀ j, r ≤ j → j < r + k → b j = c j) → pu_chk b k r = pu_chk c k r := by
  intro k
  induction k with
  | zero => intro r _; rfl
  | succ k ih =>
    intro r h
    simp only [pu_chk]
    rw [h r (Nat.le_refl r) (by omega), ih (r + 1) (fun j h1 h2 => h j (by omega) (by omega))]
/-- Warshall: a row of L's from p to q with steps at 1 .. k alone -/
def pu_wl (L : Nat → Nat → Bool) : Nat → Nat → Nat → Bool
  | 0, p, q => L p q
  | k + 1, p, q => pu_wl L k p q || (pu_wl L k p (k + 1) && pu_wl L k (k + 1) q)
theorem pu_wl_s {L : Nat → Nat → Bool} {k p q : Nat} : pu_wl L (k + 1) p q = true ↔ pu_wl L k p q = true ∨ (pu_wl L k p (k + 1) = true ∧ pu_wl L k (k + 1) q = true) := by
  simp [pu_wl]
theorem pu_wl_up {L : Nat → Nat → Bool} {k p q : Nat} (h : pu_wl L k p q = true) : pu_wl L (k + 1) p q = true := pu_wl_s.mpr (Or.inl h)
theorem pu_wl_L {L : Nat → Nat → Bool} {p q : Nat} (h : L p q = true) : ∀ k, pu_wl L k p q = true := by
  intro k
  induction k with
  | zero => exact h
  | succ k ih => exact pu_wl_up ih
theorem pu_wl_to {L : Nat → Nat → Bool} {k p : Nat} : pu_wl L (k + 1) p (k + 1) = pu_wl L k p (k + 1) := by
  simp only [pu_wl]
  cases pu_wl L k p (k + 1) <;> simp
theorem pu_wl_from {L : Nat → Nat → Bool} {k q : Nat} : pu_wl L (k + 1) (k + 1) q = pu_wl L k (k + 1) q := by
  simp only [pu_wl]
  cases pu_wl L k (k + 1) q <;> simp
theorem pu_wl_trans {L : Nat → Nat → Bool} : ∀ (k p m q : Nat), 1 ≤ m → m ≤ k → pu_wl L k p m = true → pu_wl L k m q = true → pu_wl L k p q = true := by
  intro k
  induction k with
  | zero => intro p m q h1 h2; omega
  | succ k ih =>
    intro p m q h1 h2 ha hb
    by_cases hm : m = k + 1
    · subst hm
      rw [pu_wl_to] at ha
      rw [pu_wl_from] at hb
      exact pu_wl_s.mpr (Or.inr ⟨ha, hb⟩)
    · have hm2 : m ≤ k := by omega
      rcases pu_wl_s.mp ha with a | ⟨a1, a2⟩ <;> rcases pu_wl_s.mp hb with b | ⟨b1, b2⟩
      · exact pu_wl_up (ih p m q h1 hm2 a b)
      · exact pu_wl_s.mpr (Or.inr ⟨ih p m (k + 1) h1 hm2 a b1, b2⟩)
      · exact pu_wl_s.mpr (Or.inr ⟨a1, ih (k + 1) m q h1 hm2 a2 b⟩)
      · exact pu_wl_s.mpr (Or.inr ⟨a1, b2⟩)
theorem pu_wl_min {L S : Nat → Nat → Bool} {n : Nat} (hL : ∀ p q, 1 ≤ p → p ≤ n → 1 ≤ q → q ≤ n → L p q = true → S p q = true)
    (hS : ∀ p m q, 1 ≤ p → p ≤ n → 1 ≤ m → m ≤ n → 1 ≤ q → q ≤ n → S p m = true → S m q = true → S p q = true) :
    ∀ k, k ≤ n → ∀ p q, 1 ≤ p → p ≤ n → 1 ≤ q → q ≤ n → pu_wl L k p q = true → S p q = true := by
  intro k
  induction k with
  | zero => intro _ p q h1 h2 h3 h4 h; exact hL p q h1 h2 h3 h4 h
  | succ k ih =>
    intro hk p q h1 h2 h3 h4 h
    rcases pu_wl_s.mp h with a | ⟨a, b⟩
    · exact ih (by omega) p q h1 h2 h3 h4 a
    · exact hS p (k + 1) q h1 h2 (by omega) hk h3 h4 (ih (by omega) p (k + 1) h1 h2 (by omega) hk a) (ih (by omega) (k + 1) q (by omega) hk h3 h4 b)
theorem pu_wl_congr {L M : Nat → Nat → Bool} {n : Nat} (hL : ∀ p q, 1 ≤ p → p ≤ n → 1 ≤ q → q ≤ n → L p q = M p q) :
    ∀ k, k ≤ n → ∀ p q, 1 ≤ p → p ≤ n → 1 ≤ q → q ≤ n → pu_wl L k p q = pu_wl M k p q := by
  intro k
  induction k with
  | zero => intro _ p q h1 h2 h3 h4; exact hL p q h1 h2 h3 h4
  | succ k ih =>
    intro hk p q h1 h2 h3 h4
    simp only [pu_wl]
    rw [ih (by omega) p q h1 h2 h3 h4, ih (by omega) p (k + 1) h1 h2 (by omega) hk, ih (by omega) (k + 1) q (by omega) hk h3 h4]
/-- a new number, to which nothing leads and from which nothing leads, changes nothing -/
theorem pu_wl_in0 {L : Nat → Nat → Bool} {z : Nat} (hz : ∀ p, L p z = false) : ∀ k p, pu_wl L k p z = false := by
  intro k
  induction k with
  | zero => intro p; exact hz p
  | succ k ih => intro p; simp [pu_wl, ih]
theorem pu_wl_out0 {L : Nat → Nat → Bool} {z : Nat} (hz : ∀ q, L z q = false) : ∀ k q, pu_wl L k z q = false := by
  intro k
  induction k with
  | zero => intro q; exact hz q
  | succ k ih => intro q; simp [pu_wl, ih]
theorem pu_wl_new {L : Nat → Nat → Bool} {n : Nat} (hz : ∀ p, L p (n + 1) = false) (p q : Nat) : pu_wl L (n + 1) p q = pu_wl L n p q := by
  simp [pu_wl, pu_wl_in0 hz]
/-- one more connector a b: the closure grows by all that comes to a, with all that goes from b -/
def pu_add (R : Nat → Nat → Bool) (a b p q : Nat) : Bool := R p q || ((p == a || R p a) && (q == b || R b q))
theorem pu_wl_add {L M : Nat → Nat → Bool} {n a b : Nat} (ha1 : 1 ≤ a) (ha2 : a ≤ n) (hb1 : 1 ≤ b) (hb2 : b ≤ n)
    (hM : ∀ p q, 1 ≤ p → p ≤ n → 1 ≤ q → q ≤ n → M p q = (L p q || (p == a && q == b))) :
    ∀ p q, 1 ≤ p → p ≤ n → 1 ≤ q → q ≤ n → pu_add (pu_wl L n) a b p q = pu_wl M n p q := by
  have sub : ∀ p q, 1 ≤ p → p ≤ n → 1 ≤ q → q ≤ n → pu_wl L n p q = true → pu_wl M n p q = true := by
    refine pu_wl_min (fun p q h1 h2 h3 h4 h => pu_wl_L ?_ n) (fun p m q h1 h2 h3 h4 h5 h6 => pu_wl_trans n p m q h3 h4) n (Nat.le_refl n)
    rw [hM p q h1 h2 h3 h4, h]; rfl
  have hab : pu_wl M n a b = true := pu_wl_L (by rw [hM a b ha1 ha2 hb1 hb2]; simp) n
  intro p q h1 h2 h3 h4
  rw [Bool.eq_iff_iff]
  constructor
  · intro h
    simp only [pu_add, Bool.or_eq_true, Bool.and_eq_true, beq_iff_eq] at h
    rcases h with h | ⟨ha, hb⟩
    · exact sub p q h1 h2 h3 h4 h
    · have e1 : pu_wl M n p b = true := by
        rcases ha with ha | ha
        · rw [ha]; exact hab
        · exact pu_wl_trans n p a b ha1 ha2 (sub p a h1 h2 ha1 ha2 ha) hab
      rcases hb with hb | hb
      · rw [hb]; exact e1
      · exact pu_wl_trans n p b q hb1 hb2 e1 (sub b q hb1 hb2 h3 h4 hb)
  · refine pu_wl_min (S := fun p q => pu_add (pu_wl L n) a b p q) ?_ ?_ n (Nat.le_refl n) p q h1 h2 h3 h4
    · intro p q h1 h2 h3 h4 h
      rw [hM p q h1 h2 h3 h4] at h
      simp only [pu_add, Bool.or_eq_true, Bool.and_eq_true, beq_iff_eq] at h ⊢
      rcases h with h | ⟨h5, h6⟩
      · exact Or.inl (pu_wl_L h n)
      · exact Or.inr ⟨Or.inl h5, Or.inl h6⟩
    · intro p m q h1 h2 h3 h4 h5 h6 x y
      simp only [pu_add, Bool.or_eq_true, Bool.and_eq_true, beq_iff_eq] at x y ⊢
      rcases x with x | ⟨xa, xb⟩ <;> rcases y with y | ⟨ya, yb⟩
      · exact Or.inl (pu_wl_trans n p m q h3 h4 x y)
      · refine Or.inr ⟨Or.inr ?_, yb⟩
        rcases ya with ya | ya
        · rw [← ya]; exact x
        · exact pu_wl_trans n p m a h3 h4 x ya
      · refine Or.inr ⟨xa, Or.inr ?_⟩
        rcases xb with xb | xb
        · rw [← xb]; exact y
        · exact pu_wl_trans n b m q h3 h4 xb y
      · exact Or.inr ⟨xa, yb⟩
