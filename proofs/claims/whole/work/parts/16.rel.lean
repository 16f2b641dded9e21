/-! WHEN X AND M TELL THE SAME -/
def Rel (V : XV) (M : MV) : Prop :=
  (mnp M = xnp V ∧ mnq M = xnq V ∧ xnp V ≤ 30 ∧ xnq V ≤ 60) ∧
  (∀ j, 1 ≤ j → j ≤ xnp V → xf V 1 j = mf M 2 j ∧ ∃ c : Nat, c < j ∧ mf M 2 j = nI c) ∧
  (∀ c : Nat, 1 ≤ c → c ≤ 30 → (xf V 2 c = 0 ↔ mAt M (nI c) = true)) ∧
  (∀ k, k < 10 → xf V 3 k = mf M 14 k) ∧
  (∀ j, 1 ≤ j → j ≤ xnq V → xf V 5 j = mf M 4 j ∧ xf V 6 j = mf M 5 j ∧ xf V 7 j = mf M 6 j ∧ xf V 8 j = mf M 7 j ∧ xf V 11 j = mf M 10 j ∧ ∃ c : Nat, 1 ≤ c ∧ c ≤ xnp V ∧ mf M 4 j = nI c) ∧
  (∀ j, j ≤ 60 → xg V 9 j = mg M 8 j ∧ xg V 10 j = mg M 9 j ∧ xf V 12 j = mf M 11 j ∧ xf V 13 j = mf M 12 j ∧ xf V 14 j = mf M 13 j) ∧
  (∀ j, j ≤ 60 → (xf V 8 j = -1 ∨ (j ≤ xnq V ∧ 0 ≤ (xf V 8 j).toInt ∧ inL (xg V 9 j) 1 1000 = true ∧ inL (xg V 10 j) 1 1000 = true)) ∧ (xf V 11 j = -1 ∨ (j ≤ xnq V ∧ 0 ≤ (xf V 11 j).toInt))) ∧
  (∀ p q, p ≤ 60 → q ≤ 60 → lb (xg V 15 p) q = mL M p q) ∧
  (∀ p q, p ≤ 60 → q ≤ 60 → mL M p q = true → (1 ≤ p ∧ p ≤ xnq V) ∧ (1 ≤ q ∧ q ≤ xnq V)) ∧
  (∀ p q, p ≤ 60 → lb (xg V 16 p) q = (decide ((1 ≤ p ∧ p ≤ xnq V) ∧ (1 ≤ q ∧ q ≤ xnq V)) && mR M p q)) ∧
  (∀ j, lb (xap V) j = (decide (1 ≤ j ∧ j ≤ xnq V) && (!decide (mf M 6 j = 0) && mAt M (mf M 4 j)))) ∧
  (∀ j, lb (xar V) j = (decide (1 ≤ j ∧ j ≤ xnq V) && (decide (mf M 6 j = 0) && mAt M (mf M 4 j)))) ∧
  (¬ mkn M = 0 → mKn M)
theorem xF_eq (V : XV) (p q : Nat) : xF V p q = (lb (xap V) p && (lb (xg V 16 p) q && lb (xar V) q)) := by
  unfold xF xFl
  cases lb (xap V) p <;> simp [lb_and, lb_0]
theorem rel_F {V : XV} {M : MV} (h : Rel V M) {p q : Nat} (hp : 1 ≤ p ∧ p ≤ xnq V) (hq : 1 ≤ q ∧ q ≤ xnq V) : xF V p q = mF M p q := by
  obtain ⟨⟨n1, n2, n3, n4⟩, hc, hh, hm, hpt, hul, hrng, hld, hli, hrc, hap, har, hkn⟩ := h
  rw [xF_eq, hap p, hrc p q (by omega), har q]
  unfold mF
  simp only [hp, hq, and_self, decide_true, Bool.true_and]
  generalize (!decide (mf M 6 p = 0)) = b1
  generalize decide (mf M 6 q = 0) = b2
  generalize mAt M (mf M 4 p) = b3
  generalize mAt M (mf M 4 q) = b4
  generalize mR M p q = b5
  cases b1 <;> cases b2 <;> cases b3 <;> cases b4 <;> cases b5 <;> rfl
theorem rel_xOK {V : XV} {M : MV} (h : Rel V M) : xOK V := by
  obtain ⟨⟨n1, n2, n3, n4⟩, hc, hh, hm, hpt, hul, hrng, hld, hli, hrc, hap, har, hkn⟩ := h
  refine ⟨n3, n4, fun j h1 h2 => ?_, fun j hj => ?_⟩
  · obtain ⟨e, -, -, -, -, c, c1, c2, c3⟩ := hpt j h1 h2
    exact ⟨c, c1, c2, e.trans c3⟩
  · rw [har j] at hj
    simp only [Bool.and_eq_true, decide_eq_true_eq] at hj
    exact hj.1
theorem rel_mOK {V : XV} {M : MV} (h : Rel V M) : mOK M := by
  obtain ⟨⟨n1, n2, n3, n4⟩, hc, hh, hm, hpt, hul, hrng, hld, hli, hrc, hap, har, hkn⟩ := h
  refine ⟨by omega, by omega, fun j h1 h2 => ?_, fun j h1 h2 h3 => ?_, hkn⟩
  · obtain ⟨e, -, -, -, -, c, c1, c2, c3⟩ := hpt j h1 (by omega)
    exact ⟨c, c1, by omega, c3⟩
  · obtain ⟨-, -, -, e, -, -⟩ := hpt j h1 (by omega)
    obtain ⟨a1, a2, -, -, -⟩ := hul j (by omega)
    rw [← e] at h3
    rcases (hrng j (by omega)).1 with q | ⟨-, -, q1, q2⟩
    · rw [q] at h3; exact absurd h3 (by decide)
    · rw [← a1, ← a2]; exact ⟨q1, q2⟩
/-- outside the ports no flat connector ends -/
theorem xF_out {V : XV} (h : xOK V) {p q : Nat} (hq : ¬ (1 ≤ q ∧ q ≤ xnq V)) : xF V p q = false := by
  rw [xF_eq]
  have e : lb (xar V) q = false := by
    cases hb : lb (xar V) q with
    | false => rfl
    | true => exact absurd (h.2.2.2 q hb) hq
  rw [e, Bool.and_false, Bool.and_false]
theorem xF_cnt {V : XV} (h : xOK V) (p : Nat) : pu_cnt (lb (xFl V p)) 64 0 = pu_cnt (xF V p) (xnq V) 1 :=
  lb_cnt (x := xFl V p) (by have := h.2.1; omega) (xF_out h (by omega)) (fun j hj => xF_out h (by omega))
theorem rel_all {V : XV} {M : MV} (h : Rel V M) : xAll V = mAll M := by
  have n2 : mnq M = xnq V := h.1.2.1
  unfold xAll mAll
  rw [n2]
  refine pu_sum_congr _ _ (fun p h1 h2 => ?_)
  rw [xF_cnt (rel_xOK h) p]
  exact pu_cnt_congr _ _ (fun q h3 h4 => rel_F h (by omega) (by omega))
theorem rel_at {V : XV} {M : MV} (h : Rel V M) (t : Nat) : pu_at (xF V) (xnq V) (xnq V) 1 t = pu_at (mF M) (mnq M) (mnq M) 1 t := by
  have n2 : mnq M = xnq V := h.1.2.1
  rw [n2]
  exact pu_at_congr _ _ _ (fun a b h1 h2 h3 h4 => rel_F h (by omega) (by omega))
theorem rel_to {V : XV} {M : MV} (h : Rel V M) {q : Nat} (hq : 1 ≤ q ∧ q ≤ xnq V) : xTo V q = mTo M q := by
  have n2 : mnq M = xnq V := h.1.2.1
  unfold xTo mTo
  rw [n2]
  exact pu_cnt_congr _ _ (fun p h1 h2 => rel_F h (by omega) hq)
theorem rel_rd {V : XV} {M : MV} (h : Rel V M) {q : Nat} (hq : 1 ≤ q ∧ q ≤ xnq V) : lb (xar V) q = mRd M q := by
  obtain ⟨⟨n1, n2, n3, n4⟩, hc, hh, hm, hpt, hul, hrng, hld, hli, hrc, hap, har, hkn⟩ := h
  rw [har q]
  unfold mRd
  simp only [hq, and_self, decide_true, Bool.true_and]
theorem pu_cnt0 {P : Nat → Bool} : ∀ (k i : Nat), decide (pu_cnt P k i = 0) = !pu_any P k i := by
  intro k
  induction k with
  | zero => intro i; rfl
  | succ k ih =>
    intro i
    simp only [pu_cnt, pu_any]
    by_cases hp : P i = true
    · simp [hp]
    · have hf : P i = false := by simpa using hp
      simpa [hf] using ih (i + 1)
theorem rel_op {V : XV} {M : MV} (h : Rel V M) (t : Nat) : xOp V t = mOp M t := by
  have n2 : mnq M = xnq V := h.1.2.1
  have n4 : xnq V ≤ 60 := h.1.2.2.2
  unfold xOp mOp
  rw [n2]
  refine pu_nth_congr _ _ _ (fun q h1 h2 => ?_)
  have hq : 1 ≤ q ∧ q ≤ xnq V := by omega
  have e : lb (xSec V) q = pu_any (fun p => mF M p q) (mnq M) 1 := by
    unfold xSec
    rw [pu_or_lb, lb_0, Bool.false_or, n2]
    exact pu_any_congr _ _ (fun p h3 h4 => rel_F h (by omega) hq)
  rw [lb_and, lb_not _ (by omega), rel_rd h hq, e]
  unfold mTo
  rw [pu_cnt0]
theorem pu_fst_0 {P : Nat → Bool} : ∀ (k i : Nat), 1 ≤ i → pu_fst P k i = 0 → ∀ j, i ≤ j → j < i + k → P j = false := by
  intro k
  induction k with
  | zero => intro i _ _ j h1 h2; omega
  | succ k ih =>
    intro i hi h j h1 h2
    simp only [pu_fst] at h
    cases hp : P i with
    | true => rw [hp, if_pos rfl] at h; omega
    | false =>
      rw [hp, if_neg (by decide)] at h
      by_cases e : j = i
      · rw [e]; exact hp
      · exact ih (i + 1) (by omega) h j (by omega) (by omega)
theorem pu_fst2_0 {P : Nat → Nat → Bool} {n : Nat} : ∀ (k p : Nat), pu_fst2 P n k p = 0 → ∀ a b, p ≤ a → a < p + k → 1 ≤ b → b < 1 + n → P a b = false := by
  intro k
  induction k with
  | zero => intro p _ a b h1 h2; omega
  | succ k ih =>
    intro p h a b h1 h2 h3 h4
    simp only [pu_fst2] at h
    by_cases e : pu_fst (P p) n 1 = 0
    · rw [if_pos e] at h
      by_cases ea : a = p
      · rw [ea]; exact pu_fst_0 n 1 (Nat.le_refl 1) e b h3 h4
      · exact ih (p + 1) h a b (by omega) (by omega) h3 h4
    · rw [if_neg e] at h; exact absurd h e
theorem rel_BP {V : XV} {M : MV} (h : Rel V M) (r : Nat) : xBP V r = mBP M r := by
  have h0 := h
  obtain ⟨⟨n1, n2, n3, n4⟩, hc, hh, hm, hpt, hul, hrng, hld, hli, hrc, hap, har, hkn⟩ := h
  unfold xBP mBP
  rw [n2]
  refine pu_fst_congr _ _ (fun q h1 h2 => ?_)
  have hq : 1 ≤ q ∧ q ≤ xnq V := by omega
  obtain ⟨-, e6, -, -, -, -⟩ := hpt q hq.1 hq.2
  obtain ⟨-, -, e12, -, e14⟩ := hul q (by omega)
  rw [rel_rd h0 hq]
  unfold xPB mPB
  rw [rel_to h0 hq, e6, e12, e14]
  generalize decide (mf M 5 q = 2) = b1
  generalize decide (mf M 11 q = 0) = b2
  generalize decide (mTo M q = 0) = b3
  cases b1 <;> cases b2 <;> cases b3 <;> rfl
theorem i32_m1 {x : Int32} (h : x = -1 ∨ 0 ≤ x.toInt) : decide (x = -1) = !decide (0 ≤ x.toInt) := by
  rcases h with h | h
  · subst h; decide
  · have e : ¬ x = -1 := fun q => by rw [q] at h; exact absurd h (by decide)
    simp [h, e]
theorem lrm_ne {a b : Int64} (ha : inL a 1 1000 = true) (hb : inL b 1 1000 = true) : decide (a * b = 0) = false := by
  unfold inL at ha hb
  simp only [decide_eq_true_eq] at ha hb
  have h1 : (1 : Int) ≤ a.toInt * b.toInt := by
    have := Int.mul_le_mul ha.1 hb.1 (by decide) (by omega)
    simpa using this
  have h2 : a.toInt * b.toInt ≤ 1000 * 1000 := Int.mul_le_mul ha.2 hb.2 (by omega) (by decide)
  have e : (a * b).toInt = a.toInt * b.toInt := by
    rw [Int64.toInt_mul]
    exact Int.bmod_eq_of_le (by omega) (by omega)
  simp only [decide_eq_false_iff_not]
  intro q
  rw [q] at e
  have : (0 : Int64).toInt = 0 := rfl
  omega
theorem rel_BC1 {V : XV} {M : MV} (h : Rel V M) : xBC V 1 = mBC M 1 := by
  have h0 := h
  obtain ⟨⟨n1, n2, n3, n4⟩, hc, hh, hm, hpt, hul, hrng, hld, hli, hrc, hap, har, hkn⟩ := h
  unfold xBC mBC
  rw [n2]
  refine pu_fst2_congr _ _ (fun p q h1 h2 h3 h4 => ?_)
  rw [rel_F h0 (by omega) (by omega)]
  obtain ⟨-, -, -, ep, -, -⟩ := hpt p (by omega) (by omega)
  obtain ⟨-, -, -, eq, -, -⟩ := hpt q (by omega) (by omega)
  have up := (hrng p (by omega)).1
  have uq := (hrng q (by omega)).1
  have e1 : decide (xf V 8 p = -1) = !decide (0 ≤ (xf V 8 p).toInt) := i32_m1 (up.imp id (fun z => z.2.1))
  have e2 : decide (xf V 8 q = -1) = !decide (0 ≤ (xf V 8 q).toInt) := i32_m1 (uq.imp id (fun z => z.2.1))
  unfold xCB mCB
  simp only [if_true]
  rw [e1, e2, ep, eq]
  generalize decide (0 ≤ (mf M 7 p).toInt) = b1
  generalize decide (0 ≤ (mf M 7 q).toInt) = b2
  cases b1 <;> cases b2 <;> rfl
/-- rules 2, 3, 4, 9: where rule 1 holds -/
theorem rel_BC {V : XV} {M : MV} (h : Rel V M) (hz : mBC M 1 = 0) {r : Nat} (hr : 1 < r) : xBC V r = mBC M r := by
  have h0 := h
  obtain ⟨⟨n1, n2, n3, n4⟩, hc, hh, hm, hpt, hul, hrng, hld, hli, hrc, hap, har, hkn⟩ := h
  unfold mBC at hz
  unfold xBC mBC
  rw [n2]
  refine pu_fst2_congr _ _ (fun p q h1 h2 h3 h4 => ?_)
  have hz2 := pu_fst2_0 _ _ hz p q h1 (by omega) h3 (by omega)
  rw [rel_F h0 (by omega) (by omega)]
  cases hF : mF M p q with
  | false => rfl
  | true =>
    rw [hF, Bool.true_and] at hz2
    rw [Bool.true_and, Bool.true_and]
    obtain ⟨e5, e6, -, ep, vp, -⟩ := hpt p (by omega) (by omega)
    obtain ⟨-, -, -, eq, vq, -⟩ := hpt q (by omega) (by omega)
    obtain ⟨a1, a2, -, -, -⟩ := hul p (by omega)
    obtain ⟨b1, b2, -, -, -⟩ := hul q (by omega)
    have up := (hrng p (by omega)).1
    have uq := (hrng q (by omega)).1
    have wq := (hrng q (by omega)).2
    have d1 : decide (xf V 8 p = -1) = !decide (0 ≤ (xf V 8 p).toInt) := i32_m1 (up.imp id (fun z => z.2.1))
    have d2 : decide (xf V 8 q = -1) = !decide (0 ≤ (xf V 8 q).toInt) := i32_m1 (uq.imp id (fun z => z.2.1))
    have d3 : decide (xf V 11 q = -1) = !decide (0 ≤ (xf V 11 q).toInt) := i32_m1 (wq.imp id (fun z => z.2))
    unfold mCB at hz2
    simp only [if_true] at hz2
    rw [← ep, ← eq] at hz2
    unfold xCB mCB mBo
    rw [← ep, ← eq, ← vp, ← vq, ← a1, ← a2, ← b1, ← b2, ← e5, ← e6]
    rw [if_neg (show ¬ r = 1 by omega), if_neg (show ¬ r = 1 by omega)]
    by_cases r2 : r = 2
    · rw [if_pos r2, if_pos r2]
      cases c1 : decide (0 ≤ (xf V 8 p).toInt) with
      | true =>
        rw [c1] at hz2
        cases c2 : decide (0 ≤ (xf V 8 q).toInt) with
        | true => rfl
        | false => rw [c2] at hz2; exact absurd hz2 (by decide)
      | false =>
        rw [c1] at hz2 d1
        cases c2 : decide (0 ≤ (xf V 8 q).toInt) with
        | true => rw [c2] at hz2; exact absurd hz2 (by decide)
        | false =>
          rw [c2] at d2
          have g1 : xf V 8 p = -1 := by simpa using d1
          have g2 : xf V 8 q = -1 := by simpa using d2
          rw [g1, g2]; rfl
    · rw [if_neg r2, if_neg r2]
      by_cases r3 : r = 3
      · rw [if_pos r3, if_pos r3, d1, Bool.not_not]
        cases c1 : decide (0 ≤ (xf V 8 p).toInt) with
        | false => rfl
        | true =>
          rw [c1] at hz2 d1
          cases c2 : decide (0 ≤ (xf V 8 q).toInt) with
          | false => rw [c2] at hz2; exact absurd hz2 (by decide)
          | true =>
            rw [c2] at d2
            have g1 : ¬ xf V 8 p = -1 := by simpa using d1
            have g2 : ¬ xf V 8 q = -1 := by simpa using d2
            have k1 : inL (xg V 10 p) 1 1000 = true := by rcases up with z | z; exact absurd z g1; exact z.2.2.2
            have k2 : inL (xg V 9 q) 1 1000 = true := by rcases uq with z | z; exact absurd z g2; exact z.2.2.1
            unfold xEx
            rw [lrm_ne k1 k2]
            simp
      · rw [if_neg r3, if_neg r3]
        by_cases r4 : r = 4
        · rw [if_pos r4, if_pos r4, d3]
          unfold xSv
          generalize xf V 11 p / 100 = y1
          generalize xf V 11 q / 100 = y2
          have g : decide ((xf V 11 q).toInt ≤ (xf V 11 p).toInt) = !decide ((xf V 11 p).toInt < (xf V 11 q).toInt) := by
            rw [← decide_not, decide_eq_decide]; omega
          rw [g]
          generalize decide ((xf V 11 p).toInt < (xf V 11 q).toInt) = b1
          generalize decide (0 ≤ (xf V 11 q).toInt) = b2
          generalize decide (y1 = y2) = b3
          cases b1 <;> cases b2 <;> cases b3 <;> rfl
        · rw [if_neg r4, if_neg r4]
          have g : xMg V (xf V 5 p) = mMg M (xf V 5 p) := by
            unfold xMg mMg
            exact pu_any_congr _ _ (fun k _ hk => by rw [hm k (by omega)])
          rw [g]
theorem rel_chk {V : XV} {M : MV} (h : Rel V M) : xChk V = mChk M := by
  have b1 : (fun r => if 5 ≤ r ∧ r ≤ 8 then xBP V r else xBC V r) 1 = mBC M 1 := (if_neg (by omega)).trans (rel_BC1 h)
  have b2 : (fun r => if 5 ≤ r ∧ r ≤ 8 then mBP M r else mBC M r) 1 = mBC M 1 := if_neg (by omega)
  by_cases hz : mBC M 1 = 0
  · refine Eq.trans (pu_chk_n (k := 8) (b := fun r => if 5 ≤ r ∧ r ≤ 8 then xBP V r else xBC V r) (r := 1) (b1.trans hz)) (Eq.trans ?_ (pu_chk_n (k := 8) (b := fun r => if 5 ≤ r ∧ r ≤ 8 then mBP M r else mBC M r) (r := 1) (b2.trans hz)).symm)
    refine pu_chk_congr 8 (1 + 1) (fun r h1 h2 => ?_)
    show (if 5 ≤ r ∧ r ≤ 8 then xBP V r else xBC V r) = (if 5 ≤ r ∧ r ≤ 8 then mBP M r else mBC M r)
    by_cases hp : 5 ≤ r ∧ r ≤ 8
    · rw [if_pos hp, if_pos hp, rel_BP h r]
    · rw [if_neg hp, if_neg hp, rel_BC h hz (by omega)]
  · exact Eq.trans (pu_chk_y (k := 8) (b := fun r => if 5 ≤ r ∧ r ≤ 8 then xBP V r else xBC V r) (r := 1) b1 hz) (pu_chk_y (k := 8) (b := fun r => if 5 ≤ r ∧ r ≤ 8 then mBP M r else mBC M r) (r := 1) b2 hz).symm
