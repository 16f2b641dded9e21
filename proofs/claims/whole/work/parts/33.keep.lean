/-! EVERY CALL KEEPS THE RELATION, and the two answer alike -/
def Rel2 (V : XV) (M : MV) : Prop := Rel V M ∧ mLb M
theorem rel_up {V : XV} {M u : MV} {co : Int32} (h : Rel2 V M) (hu : mUp M co u) : Rel2 V u := by
  obtain ⟨kn, r, rfl, hk⟩ := hu
  obtain ⟨⟨a1, a2, a3, a4, a5, a6, a7, a8, a9, a10, a11, a12, a13⟩, hl⟩ := h
  exact ⟨⟨a1, a2, a3, a4, a5, a6, a7, a8, a9, a10, a11, a12, hk⟩, hl⟩
theorem rel_m0 {V : XV} {M : MV} (h : Rel2 V M) : Rel2 V (m0 M) := by
  obtain ⟨⟨a1, a2, a3, a4, a5, a6, a7, a8, a9, a10, a11, a12, a13⟩, hl⟩ := h
  exact ⟨⟨a1, a2, a3, a4, a5, a6, a7, a8, a9, a10, a11, a12, a13⟩, hl⟩
theorem pu_any_end {P : Nat → Bool} {k i : Nat} : pu_any P (k + 1) i = (pu_any P k i || P (i + k)) := by
  rw [Bool.eq_iff_iff]
  simp only [Bool.or_eq_true, pu_any_iff]
  constructor
  · rintro ⟨j, h1, h2, h3⟩
    by_cases e : j = i + k
    · rw [e] at h3; exact Or.inr h3
    · exact Or.inl ⟨j, h1, by omega, h3⟩
  · rintro (⟨j, h1, h2, h3⟩ | h)
    · exact ⟨j, h1, by omega, h3⟩
    · exact ⟨i + k, by omega, by omega, h⟩
/-- the reference's atomic parts behind a new part in c -/
def mPart1 (M : MV) (c : Int32) : MV := (mnp M + 1, mnq M, 0, 0, va_up (mf M) 2 (upd (mf M 2) (mnp M + 1) c), mg M)
theorem mAt_new (M : MV) (c x : Int32) : mAt (mPart1 M c) x = (mAt M x && !decide (c = x)) := by
  unfold mAt
  show (!pu_any (fun k => decide (upd (mf M 2) (mnp M + 1) c k = x)) (mnp M + 1) 1) = _
  rw [pu_any_end, pu_any_congr (P := fun k => decide (upd (mf M 2) (mnp M + 1) c k = x)) (Q := fun k => decide (mf M 2 k = x)) (mnp M) 1 (fun j h1 h2 => by rw [pk_un (by omega)])]
  rw [show 1 + mnp M = mnp M + 1 by omega, pk_us]
  cases pu_any (fun k => decide (mf M 2 k = x)) (mnp M) 1 <;> cases decide (c = x) <;> rfl
theorem wl_grow {L : Nat → Nat → Bool} {n : Nat} (hL : ∀ p q, 1 ≤ p → p ≤ n + 1 → 1 ≤ q → q ≤ n + 1 → L p q = true → p ≤ n ∧ q ≤ n) {p q : Nat} (h1 : 1 ≤ p) (h2 : p ≤ n + 1) (h3 : 1 ≤ q) (h4 : q ≤ n + 1) : pu_wl L (n + 1) p q = (decide (p ≤ n ∧ q ≤ n) && pu_wl L n p q) := by
  have c1 : ∀ k, k ≤ n + 1 → ∀ p q, 1 ≤ p → p ≤ n + 1 → 1 ≤ q → q ≤ n + 1 → pu_wl L k p q = pu_wl (fun a b => L a b && decide (a ≤ n ∧ b ≤ n)) k p q := by
    refine pu_wl_congr (fun p q a1 a2 a3 a4 => ?_)
    cases h : L p q with
    | false => rfl
    | true => simp [hL p q a1 a2 a3 a4 h]
  rw [c1 (n + 1) (Nat.le_refl _) p q h1 h2 h3 h4, pu_wl_new (fun a => by rw [decide_eq_false (by omega), Bool.and_false])]
  rw [c1 n (by omega) p q h1 h2 h3 h4]
  by_cases hpq : p ≤ n ∧ q ≤ n
  · rw [decide_eq_true hpq, Bool.true_and]
  · rw [decide_eq_false hpq, Bool.false_and]
    by_cases hp : p ≤ n
    · have e : q = n + 1 := by omega
      subst e
      exact pu_wl_in0 (fun a => by rw [decide_eq_false (by omega), Bool.and_false]) n p
    · have e : p = n + 1 := by omega
      subst e
      exact pu_wl_out0 (fun b => by rw [decide_eq_false (by omega), Bool.and_false]) n q
theorem inB_0 {c : Int32} {n : Nat} : inB c 0 n = true ↔ (c = 0 ∨ inB c 1 n = true) := by
  unfold inB
  simp only [decide_eq_true_eq]
  constructor
  · intro ⟨h1, h2⟩
    by_cases e : c.toInt = 0
    · exact Or.inl (Int32.toInt_inj.mp e)
    · exact Or.inr ⟨by omega, h2⟩
  · rintro (e | ⟨h1, h2⟩)
    · rw [e]; exact ⟨by decide, by show (0 : Int) ≤ _; omega⟩
    · exact ⟨by omega, h2⟩
theorem nI_ne0' {p : Nat} (h1 : 1 ≤ p) (h2 : p ≤ 60) : ¬ (0 : Int32) = nI p := fun h => absurd h.symm (nI_ne0 h1 (by omega))
/-- part -/
theorem keep_part {V : XV} {M : MV} (h : Rel2 V M) (c : Int32) : (xPart V c).1 = (mPart M c).1 ∧ Rel2 (xPart V c).2 (mPart M c).2 := by
  have h0 := h
  obtain ⟨⟨⟨n1, n2, n3, n4⟩, hc, hh, hm, hpt, hul, hrng, hld, hli, hrc, hap, har, hkn⟩, hl⟩ := h
  unfold xPart mPart
  by_cases hin : c = 0 ∨ inB c 1 (xnp V) = true
  · have hin2 : inB c 0 (mnp M) = true := by rw [n1]; exact inB_0.mpr hin
    rw [if_pos hin, if_pos hin2]
    by_cases hf : 30 ≤ xnp V
    · rw [if_pos hf, if_pos (by omega)]
      exact ⟨rfl, rel_m0 h0⟩
    · rw [if_neg hf, if_neg (show ¬ mnp M = 30 by omega)]
      obtain ⟨c0, hc0, rfl⟩ : ∃ c0 : Nat, c0 ≤ xnp V ∧ c = nI c0 := by
        obtain ⟨a1, a2⟩ := inB_of hin2
        obtain ⟨t, ht, e⟩ := ni_pos a1
        rw [e, nI_toInt ht] at a2
        exact ⟨t, by omega, e⟩
      have hans : nI (xnp V + 1) = nI (mnp M + 1) := by rw [n1]
      have hcomp : ∀ j, 1 ≤ j → j ≤ xnp V + 1 → upd (xf V 1) (xnp V + 1) (nI c0) j = upd (mf M 2) (mnp M + 1) (nI c0) j ∧ ∃ d : Nat, d < j ∧ upd (mf M 2) (mnp M + 1) (nI c0) j = nI d := by
        intro j h1 h2
        rw [n1]
        by_cases e : j = xnp V + 1
        · rw [e, pk_us, pk_us]; exact ⟨rfl, c0, by omega, rfl⟩
        · rw [pk_un e, pk_un e]; exact hc j h1 (by omega)
      have hpt' : ∀ j, 1 ≤ j → j ≤ xnq V → xf V 5 j = mf M 4 j ∧ xf V 6 j = mf M 5 j ∧ xf V 7 j = mf M 6 j ∧ xf V 8 j = mf M 7 j ∧ xf V 11 j = mf M 10 j ∧ ∃ c : Nat, 1 ≤ c ∧ c ≤ xnp V + 1 ∧ mf M 4 j = nI c := by
        intro j h1 h2
        obtain ⟨e1, e2, e3, e4, e5, d, d1, d2, d3⟩ := hpt j h1 h2
        exact ⟨e1, e2, e3, e4, e5, d, d1, by omega, d3⟩
      have hn1 : mnp M + 1 = xnp V + 1 := by omega
      have hn3 : xnp V + 1 ≤ 30 := by omega
      by_cases hz : nI c0 = 0
      · rw [if_pos hz]
        have hc00 : c0 = 0 := (nI_eq (by omega) (by decide)).mp (hz.trans nI_0.symm)
        subst hc00
        have hat : ∀ d : Nat, 1 ≤ d → d ≤ 60 → mAt (mPart1 M (nI 0)) (nI d) = mAt M (nI d) := by
          intro d h1 h2
          rw [mAt_new, decide_eq_false (by rw [nI_0]; exact nI_ne0' h1 h2), Bool.not_false, Bool.and_true]
        have hset : ∀ (b : Nat → Bool) (j : Nat), (decide (1 ≤ j ∧ j ≤ xnq V) && (b j && mAt M (mf M 4 j))) = (decide (1 ≤ j ∧ j ≤ xnq V) && (b j && mAt (mPart1 M (nI 0)) (mf M 4 j))) := by
          intro b j
          by_cases hj : 1 ≤ j ∧ j ≤ xnq V
          · obtain ⟨-, -, -, -, -, d, d1, d2, d3⟩ := hpt j hj.1 hj.2
            rw [d3, hat d d1 (by omega)]
          · rw [decide_eq_false hj]; rfl
        exact ⟨hans, ⟨⟨hn1, n2, hn3, n4⟩, hcomp, fun d h1 h2 => (hh d h1 h2).trans (by rw [← hat d h1 (by omega)]; exact Iff.rfl), hm, hpt', hul, hrng, hld, hli, hrc, fun j => (hap j).trans (hset (fun j => !decide (mf M 6 j = 0)) j), fun j => (har j).trans (hset (fun j => decide (mf M 6 j = 0)) j), fun q => absurd rfl q⟩, hl⟩
      · rw [if_neg hz, nI_clamp (by omega)]
        have hc01 : 1 ≤ c0 := by
          rcases Nat.eq_zero_or_pos c0 with e | e
          · subst e; exact absurd nI_0 hz
          · exact e
        have hcut : ∀ (x : Int64) (j : Nat), lb (pu_cut (fun j => decide (xf V 5 j = nI c0)) (xnq V) 1 x) j = (lb x j && !(decide (1 ≤ j ∧ j ≤ xnq V) && decide (mf M 4 j = nI c0))) := by
          intro x j
          by_cases hj : j < 64
          · rw [pu_cut_lb hj (xnq V) 1 x (by omega)]
            by_cases hr : 1 ≤ j ∧ j ≤ xnq V
            · rw [decide_eq_true hr, decide_eq_true (show 1 ≤ j ∧ j < 1 + xnq V by omega), (hpt j hr.1 hr.2).1]
            · rw [decide_eq_false hr, decide_eq_false (show ¬ (1 ≤ j ∧ j < 1 + xnq V) by omega)]
              rfl
          · rw [lb_big (by omega), lb_big (by omega)]; rfl
        have hset : ∀ (b : Nat → Bool) (x : Int64), (∀ j, lb x j = (decide (1 ≤ j ∧ j ≤ xnq V) && (b j && mAt M (mf M 4 j)))) → ∀ j, lb (pu_cut (fun j => decide (xf V 5 j = nI c0)) (xnq V) 1 x) j = (decide (1 ≤ j ∧ j ≤ xnq V) && (b j && mAt (mPart1 M (nI c0)) (mf M 4 j))) := by
          intro b x hx j
          rw [hcut, hx j, mAt_new]
          rw [show decide (nI c0 = mf M 4 j) = decide (mf M 4 j = nI c0) from decide_eq_decide.mpr ⟨Eq.symm, Eq.symm⟩]
          cases decide (1 ≤ j ∧ j ≤ xnq V) <;> cases b j <;> cases mAt M (mf M 4 j) <;> cases decide (mf M 4 j = nI c0) <;> rfl
        have hin9 : ∀ d : Nat, 1 ≤ d → d ≤ 30 → (upd (xf V 2) c0 1 d = 0 ↔ mAt (mPart1 M (nI c0)) (nI d) = true) := by
          intro d h1 h2
          rw [mAt_new]
          by_cases e : d = c0
          · subst e
            rw [pk_us, decide_eq_true rfl]
            constructor
            · intro q; exact absurd q (by decide)
            · intro q; simp at q
          · rw [pk_un e, decide_eq_false (fun q => e ((nI_eq (by omega) (by omega)).mp q).symm), Bool.not_false, Bool.and_true]
            exact hh d h1 h2
        exact ⟨hans, ⟨⟨hn1, n2, hn3, n4⟩, hcomp, hin9, hm, hpt', hul, hrng, hld, hli, hrc, hset (fun j => !decide (mf M 6 j = 0)) (xap V) hap, hset (fun j => decide (mf M 6 j = 0)) (xar V) har, fun q => absurd rfl q⟩, hl⟩
  · rw [if_neg hin, if_neg (fun q => hin (inB_0.mp (by rw [← n1]; exact q)))]
    exact ⟨rfl, rel_m0 h0⟩
/-- port -/
def mPort1 (M : MV) (a k b : Int32) : MV := (mnp M, mnq M + 1, 0, 0, va_up (va_up (va_up (va_up (va_up (mf M) 4 (upd (mf M 4) (mnq M + 1) a)) 5 (upd (mf M 5) (mnq M + 1) k)) 6 (upd (mf M 6) (mnq M + 1) b)) 7 (upd (mf M 7) (mnq M + 1) (-1))) 10 (upd (mf M 10) (mnq M + 1) (-1)), mg M)
theorem keep_port {V : XV} {M : MV} (h : Rel2 V M) (a k b : Int32) : (xPort V a k b).1 = (mPort M a k b).1 ∧ Rel2 (xPort V a k b).2 (mPort M a k b).2 := by
  have h0 := h
  obtain ⟨⟨⟨n1, n2, n3, n4⟩, hc, hh, hm, hpt, hul, hrng, hld, hli, hrc, hap, har, hkn⟩, hl⟩ := h
  unfold xPort mPort
  by_cases hin : inB a 1 (xnp V) = true
  · rw [if_pos hin, if_pos (show inB a 1 (mnp M) = true by rw [n1]; exact hin)]
    by_cases hk : inB k 0 3 = true
    · rw [if_pos hk, if_pos hk]
      by_cases hf : 60 ≤ xnq V
      · rw [if_pos hf, if_pos (by omega)]
        exact ⟨rfl, rel_m0 h0⟩
      · rw [if_neg hf, if_neg (show ¬ mnq M = 60 by omega)]
        obtain ⟨p, hp1, hp2, rfl⟩ := inB_nI (by omega) hin
        rw [nI_clamp (by omega)]
        have hans : nI (xnq V + 1) = nI (mnq M + 1) := by rw [n2]
        have hn2 : mnq M + 1 = xnq V + 1 := by omega
        have hn4 : xnq V + 1 ≤ 60 := by omega
        have hpt' : ∀ j, 1 ≤ j → j ≤ xnq V + 1 → upd (xf V 5) (xnq V + 1) (nI p) j = upd (mf M 4) (mnq M + 1) (nI p) j ∧ upd (xf V 6) (xnq V + 1) k j = upd (mf M 5) (mnq M + 1) k j ∧ upd (xf V 7) (xnq V + 1) b j = upd (mf M 6) (mnq M + 1) b j ∧ xf V 8 j = upd (mf M 7) (mnq M + 1) (-1) j ∧ xf V 11 j = upd (mf M 10) (mnq M + 1) (-1) j ∧ ∃ c : Nat, 1 ≤ c ∧ c ≤ xnp V ∧ upd (mf M 4) (mnq M + 1) (nI p) j = nI c := by
          intro j h1 h2
          rw [n2]
          by_cases e : j = xnq V + 1
          · rw [e]
            simp only [pk_us]
            refine ⟨trivial, trivial, trivial, ?_, ?_, p, hp1, hp2, rfl⟩
            · rcases (hrng (xnq V + 1) hn4).1 with q | q
              · exact q
              · omega
            · rcases (hrng (xnq V + 1) hn4).2 with q | q
              · exact q
              · omega
          · simp only [pk_un e]
            exact hpt j h1 (by omega)
        have hrng' : ∀ j, j ≤ 60 → (xf V 8 j = -1 ∨ (j ≤ xnq V + 1 ∧ 0 ≤ (xf V 8 j).toInt ∧ inL (xg V 9 j) 1 1000 = true ∧ inL (xg V 10 j) 1 1000 = true)) ∧ (xf V 11 j = -1 ∨ (j ≤ xnq V + 1 ∧ 0 ≤ (xf V 11 j).toInt)) := by
          intro j hj
          obtain ⟨q1, q2⟩ := hrng j hj
          exact ⟨q1.imp id (fun z => ⟨by omega, z.2⟩), q2.imp id (fun z => ⟨by omega, z.2⟩)⟩
        have hli' : ∀ p q, p ≤ 60 → q ≤ 60 → mL M p q = true → (1 ≤ p ∧ p ≤ xnq V + 1) ∧ (1 ≤ q ∧ q ≤ xnq V + 1) := by
          intro p q h1 h2 h3
          have := hli p q h1 h2 h3
          omega
        have hrc' : ∀ p q, p ≤ 60 → lb (xg V 16 p) q = (decide ((1 ≤ p ∧ p ≤ xnq V + 1) ∧ (1 ≤ q ∧ q ≤ xnq V + 1)) && pu_wl (mL M) (mnq M + 1) p q) := by
          intro p q h1
          rw [hrc p q h1, n2]
          by_cases hpq : (1 ≤ p ∧ p ≤ xnq V + 1) ∧ (1 ≤ q ∧ q ≤ xnq V + 1)
          · rw [decide_eq_true hpq, Bool.true_and, wl_grow (fun a b a1 a2 a3 a4 e => ⟨(hli a b (by omega) (by omega) e).1.2, (hli a b (by omega) (by omega) e).2.2⟩) hpq.1.1 hpq.1.2 hpq.2.1 hpq.2.2]
            unfold mR
            rw [n2]
            congr 1
            rw [decide_eq_decide]
            omega
          · rw [decide_eq_false hpq, decide_eq_false (by omega)]
            rfl
        have hat : mAt (mPort1 M (nI p) k b) = mAt M := rfl
        have hold : ∀ (x : Int64) (f : Int32 → Bool), (∀ j, lb x j = (decide (1 ≤ j ∧ j ≤ xnq V) && (f (mf M 6 j) && mAt M (mf M 4 j)))) → ∀ (y : Int64), (∀ j, lb y j = (lb x j || (decide (xnq V + 1 = j) && (f b && mAt M (nI p))))) → ∀ j, lb y j = (decide (1 ≤ j ∧ j ≤ xnq V + 1) && (f (upd (mf M 6) (mnq M + 1) b j) && mAt M (upd (mf M 4) (mnq M + 1) (nI p) j))) := by
          intro x f hx y hy j
          rw [hy j, hx j, n2]
          by_cases e : xnq V + 1 = j
          · subst e
            rw [pk_us, pk_us, decide_eq_false (show ¬ (1 ≤ xnq V + 1 ∧ xnq V + 1 ≤ xnq V) by omega), decide_eq_true rfl, decide_eq_true (show 1 ≤ xnq V + 1 ∧ xnq V + 1 ≤ xnq V + 1 by omega)]
            simp
          · rw [pk_un (Ne.symm e), pk_un (Ne.symm e), decide_eq_false e, Bool.false_and, Bool.or_false]
            congr 1
            rw [decide_eq_decide]
            omega
        have hz : ∀ (x : Int64) (j : Nat), lb (x ||| lbit (xnq V + 1)) j = (lb x j || decide (xnq V + 1 = j)) := by
          intro x j
          rw [lb_or, lb_bit (by omega)]
        have hb7 : xf (xPort1 V (nI p) k b) 7 (xnq V + 1) = b := pk_us
        by_cases hi : xf V 2 p = 0
        · rw [if_pos hi]
          have ha : mAt M (nI p) = true := (hh p hp1 (by omega)).mp hi
          have ha1 : ∀ j, lb (if b = 0 then xap V else xap V ||| lbit (xnq V + 1)) j = (lb (xap V) j || (decide (xnq V + 1 = j) && (!decide (b = 0) && mAt M (nI p)))) := by
            intro j
            by_cases e : b = 0
            · rw [if_pos e, decide_eq_true e]; simp
            · rw [if_neg e, decide_eq_false e, hz, ha]; simp
          have ha2 : ∀ j, lb (if b = 0 then xar V ||| lbit (xnq V + 1) else xar V) j = (lb (xar V) j || (decide (xnq V + 1 = j) && (decide (b = 0) && mAt M (nI p)))) := by
            intro j
            by_cases e : b = 0
            · rw [if_pos e, decide_eq_true e, hz, ha]; simp
            · rw [if_neg e, decide_eq_false e]; simp
          refine ⟨hans, ⟨⟨n1, hn2, n3, hn4⟩, hc, hh, hm, hpt', hul, hrng', hld, hli', hrc', ?_, ?_, fun q => absurd rfl q⟩, hl⟩
          · intro j
            show lb (if xf (xPort1 V (nI p) k b) 7 (xnq V + 1) = 0 then xap V else xap V ||| lbit (xnq V + 1)) j = _
            rw [hb7]
            exact hold (xap V) (fun z => !decide (z = 0)) hap _ ha1 j
          · intro j
            show lb (if xf (xPort1 V (nI p) k b) 7 (xnq V + 1) = 0 then xar V ||| lbit (xnq V + 1) else xar V) j = _
            rw [hb7]
            exact hold (xar V) (fun z => decide (z = 0)) har _ ha2 j
        · rw [if_neg hi]
          have ha : mAt M (nI p) = false := by
            cases e : mAt M (nI p) with
            | false => rfl
            | true => exact absurd ((hh p hp1 (by omega)).mpr e) hi
          exact ⟨hans, ⟨⟨n1, hn2, n3, hn4⟩, hc, hh, hm, hpt', hul, hrng', hld, hli', hrc', hold (xap V) (fun z => !decide (z = 0)) hap (xap V) (fun j => by rw [ha]; simp), hold (xar V) (fun z => decide (z = 0)) har (xar V) (fun j => by rw [ha]; simp), fun q => absurd rfl q⟩, hl⟩
    · rw [if_neg hk, if_neg hk]
      exact ⟨rfl, rel_m0 h0⟩
  · rw [if_neg hin, if_neg (show ¬ inB a 1 (mnp M) = true by rw [n1]; exact hin)]
    exact ⟨rfl, rel_m0 h0⟩
/-- unit -/
theorem keep_unit {V : XV} {M : MV} (h : Rel2 V M) (x u : Int32) (y z : Int64) : (xUnit V x u y z).1 = (mUnit M x u y z).1 ∧ Rel2 (xUnit V x u y z).2 (mUnit M x u y z).2 := by
  have h0 := h
  obtain ⟨⟨⟨n1, n2, n3, n4⟩, hc, hh, hm, hpt, hul, hrng, hld, hli, hrc, hap, har, hkn⟩, hl⟩ := h
  unfold xUnit mUnit
  by_cases hin : inB x 1 (xnq V) = true
  · rw [if_pos hin, if_pos (show inB x 1 (mnq M) = true by rw [n2]; exact hin)]
    by_cases hu : inB u 0 20 = true ∧ inL y 1 1000 = true ∧ inL z 1 1000 = true
    · rw [if_pos hu, if_pos hu]
      obtain ⟨p, hp1, hp2, rfl⟩ := inB_nI (by omega) hin
      rw [nI_clamp (by omega)]
      have hpt' : ∀ j, 1 ≤ j → j ≤ xnq V → xf V 5 j = mf M 4 j ∧ xf V 6 j = mf M 5 j ∧ xf V 7 j = mf M 6 j ∧ upd (xf V 8) p u j = upd (mf M 7) p u j ∧ xf V 11 j = mf M 10 j ∧ ∃ c : Nat, 1 ≤ c ∧ c ≤ xnp V ∧ mf M 4 j = nI c := by
        intro j h1 h2
        obtain ⟨e1, e2, e3, e4, e5, e6⟩ := hpt j h1 h2
        refine ⟨e1, e2, e3, ?_, e5, e6⟩
        by_cases e : j = p
        · rw [e, pk_us, pk_us]
        · rw [pk_un e, pk_un e]; exact e4
      have hul' : ∀ j, j ≤ 60 → vp_updL (xg V 9) p y j = vp_updL (mg M 8) p y j ∧ vp_updL (xg V 10) p z j = vp_updL (mg M 9) p z j ∧ xf V 12 j = mf M 11 j ∧ xf V 13 j = mf M 12 j ∧ xf V 14 j = mf M 13 j := by
        intro j hj
        obtain ⟨e1, e2, e3⟩ := hul j hj
        by_cases e : j = p
        · rw [e, pk_uLs, pk_uLs, pk_uLs, pk_uLs]; rw [e] at e3; exact ⟨rfl, rfl, e3⟩
        · rw [pk_uLn e, pk_uLn e, pk_uLn e, pk_uLn e]; exact ⟨e1, e2, e3⟩
      have hrng' : ∀ j, j ≤ 60 → (upd (xf V 8) p u j = -1 ∨ (j ≤ xnq V ∧ 0 ≤ (upd (xf V 8) p u j).toInt ∧ inL (vp_updL (xg V 9) p y j) 1 1000 = true ∧ inL (vp_updL (xg V 10) p z j) 1 1000 = true)) ∧ (xf V 11 j = -1 ∨ (j ≤ xnq V ∧ 0 ≤ (xf V 11 j).toInt)) := by
        intro j hj
        refine ⟨?_, (hrng j hj).2⟩
        by_cases e : j = p
        · rw [e, pk_us, pk_uLs, pk_uLs]; exact Or.inr ⟨hp2, (inB_of hu.1).1, hu.2.1, hu.2.2⟩
        · rw [pk_un e, pk_uLn e, pk_uLn e]; exact (hrng j hj).1
      exact ⟨rfl, ⟨⟨n1, n2, n3, n4⟩, hc, hh, hm, hpt', hul', hrng', hld, hli, hrc, hap, har, hkn⟩, hl⟩
    · rw [if_neg hu, if_neg hu]
      exact ⟨rfl, rel_m0 h0⟩
  · rw [if_neg hin, if_neg (show ¬ inB x 1 (mnq M) = true by rw [n2]; exact hin)]
    exact ⟨rfl, rel_m0 h0⟩
/-- manager -/
theorem keep_man {V : XV} {M : MV} (h : Rel2 V M) (k x : Int32) : (xMan V k x).1 = (mMan M k x).1 ∧ Rel2 (xMan V k x).2 (mMan M k x).2 := by
  have h0 := h
  obtain ⟨⟨⟨n1, n2, n3, n4⟩, hc, hh, hm, hpt, hul, hrng, hld, hli, hrc, hap, har, hkn⟩, hl⟩ := h
  unfold xMan mMan
  by_cases hin : inB x 1 (xnp V) = true
  · rw [if_pos hin, if_pos (show inB x 1 (mnp M) = true by rw [n1]; exact hin)]
    by_cases hk : inB k 0 9 = true
    · rw [if_pos hk, if_pos hk]
      obtain ⟨t, ht, rfl⟩ := ni_pos (inB_of hk).1
      have ht9 := (inB_of hk).2
      rw [nI_toInt ht] at ht9
      rw [nI_clamp ht, ← hm t (by omega)]
      by_cases hz : xf V 3 t = 0 ∨ xf V 3 t = x
      · rw [if_pos hz, if_pos hz]
        have hm' : ∀ k, k < 10 → upd (xf V 3) t x k = upd (mf M 14) t x k := by
          intro k hk
          by_cases e : k = t
          · rw [e, pk_us, pk_us]
          · rw [pk_un e, pk_un e]; exact hm k hk
        exact ⟨rfl, ⟨⟨n1, n2, n3, n4⟩, hc, hh, hm', hpt, hul, hrng, hld, hli, hrc, hap, har, hkn⟩, hl⟩
      · rw [if_neg hz, if_neg hz]
        exact ⟨rfl, rel_m0 h0⟩
    · rw [if_neg hk, if_neg hk]
      exact ⟨rfl, rel_m0 h0⟩
  · rw [if_neg hin, if_neg (show ¬ inB x 1 (mnp M) = true by rw [n1]; exact hin)]
    exact ⟨rfl, rel_m0 h0⟩
/-- fallback -/
theorem keep_fall {V : XV} {M : MV} (h : Rel2 V M) (x v : Int32) : (xFall V x v).1 = (mFall M x v).1 ∧ Rel2 (xFall V x v).2 (mFall M x v).2 := by
  have h0 := h
  obtain ⟨⟨⟨n1, n2, n3, n4⟩, hc, hh, hm, hpt, hul, hrng, hld, hli, hrc, hap, har, hkn⟩, hl⟩ := h
  unfold xFall mFall
  by_cases hin : inB x 1 (xnq V) = true
  · rw [if_pos hin, if_pos (show inB x 1 (mnq M) = true by rw [n2]; exact hin)]
    obtain ⟨p, hp1, hp2, rfl⟩ := inB_nI (by omega) hin
    rw [nI_clamp (by omega), ← (hpt p hp1 hp2).2.2.1]
    by_cases hz : xf V 7 p = 0
    · rw [if_pos hz, if_pos hz]
      have hul' : ∀ j, j ≤ 60 → xg V 9 j = mg M 8 j ∧ xg V 10 j = mg M 9 j ∧ upd (xf V 12) p 1 j = upd (mf M 11) p 1 j ∧ upd (xf V 13) p v j = upd (mf M 12) p v j ∧ xf V 14 j = mf M 13 j := by
        intro j hj
        obtain ⟨e1, e2, e3, e4, e5⟩ := hul j hj
        by_cases e : j = p
        · rw [e, pk_us, pk_us, pk_us, pk_us]; rw [e] at e1 e2 e5; exact ⟨e1, e2, rfl, rfl, e5⟩
        · rw [pk_un e, pk_un e, pk_un e, pk_un e]; exact ⟨e1, e2, e3, e4, e5⟩
      exact ⟨(hul p (by omega)).2.2.2.1, ⟨⟨n1, n2, n3, n4⟩, hc, hh, hm, hpt, hul', hrng, hld, hli, hrc, hap, har, hkn⟩, hl⟩
    · rw [if_neg hz, if_neg hz]
      exact ⟨rfl, rel_m0 h0⟩
  · rw [if_neg hin, if_neg (show ¬ inB x 1 (mnq M) = true by rw [n2]; exact hin)]
    exact ⟨rfl, rel_m0 h0⟩
/-- queue -/
theorem keep_que {V : XV} {M : MV} (h : Rel2 V M) (x n : Int32) : (xQue V x n).1 = (mQue M x n).1 ∧ Rel2 (xQue V x n).2 (mQue M x n).2 := by
  have h0 := h
  obtain ⟨⟨⟨n1, n2, n3, n4⟩, hc, hh, hm, hpt, hul, hrng, hld, hli, hrc, hap, har, hkn⟩, hl⟩ := h
  unfold xQue mQue
  by_cases hin : inB x 1 (xnq V) = true
  · rw [if_pos hin, if_pos (show inB x 1 (mnq M) = true by rw [n2]; exact hin)]
    by_cases hk : inB n 1 100 = true
    · rw [if_pos hk, if_pos hk]
      obtain ⟨p, hp1, hp2, rfl⟩ := inB_nI (by omega) hin
      rw [nI_clamp (by omega), ← (hpt p hp1 hp2).2.1]
      by_cases hz : xf V 6 p = 1
      · rw [if_pos hz, if_pos hz]
        have hul' : ∀ j, j ≤ 60 → xg V 9 j = mg M 8 j ∧ xg V 10 j = mg M 9 j ∧ xf V 12 j = mf M 11 j ∧ xf V 13 j = mf M 12 j ∧ upd (xf V 14) p n j = upd (mf M 13) p n j := by
          intro j hj
          obtain ⟨e1, e2, e3, e4, e5⟩ := hul j hj
          by_cases e : j = p
          · rw [e, pk_us, pk_us]; rw [e] at e1 e2 e3 e4; exact ⟨e1, e2, e3, e4, rfl⟩
          · rw [pk_un e, pk_un e]; exact ⟨e1, e2, e3, e4, e5⟩
        exact ⟨rfl, ⟨⟨n1, n2, n3, n4⟩, hc, hh, hm, hpt, hul', hrng, hld, hli, hrc, hap, har, hkn⟩, hl⟩
      · rw [if_neg hz, if_neg hz]
        exact ⟨rfl, rel_m0 h0⟩
    · rw [if_neg hk, if_neg hk]
      exact ⟨rfl, rel_m0 h0⟩
  · rw [if_neg hin, if_neg (show ¬ inB x 1 (mnq M) = true by rw [n2]; exact hin)]
    exact ⟨rfl, rel_m0 h0⟩
/-- version -/
theorem keep_ver {V : XV} {M : MV} (h : Rel2 V M) (x v : Int32) : (xVer V x v).1 = (mVer M x v).1 ∧ Rel2 (xVer V x v).2 (mVer M x v).2 := by
  have h0 := h
  obtain ⟨⟨⟨n1, n2, n3, n4⟩, hc, hh, hm, hpt, hul, hrng, hld, hli, hrc, hap, har, hkn⟩, hl⟩ := h
  unfold xVer mVer
  by_cases hin : inB x 1 (xnq V) = true
  · rw [if_pos hin, if_pos (show inB x 1 (mnq M) = true by rw [n2]; exact hin)]
    by_cases hk : inB v 0 9999 = true
    · rw [if_pos hk, if_pos hk]
      obtain ⟨p, hp1, hp2, rfl⟩ := inB_nI (by omega) hin
      rw [nI_clamp (by omega)]
      have hpt' : ∀ j, 1 ≤ j → j ≤ xnq V → xf V 5 j = mf M 4 j ∧ xf V 6 j = mf M 5 j ∧ xf V 7 j = mf M 6 j ∧ xf V 8 j = mf M 7 j ∧ upd (xf V 11) p v j = upd (mf M 10) p v j ∧ ∃ c : Nat, 1 ≤ c ∧ c ≤ xnp V ∧ mf M 4 j = nI c := by
        intro j h1 h2
        obtain ⟨e1, e2, e3, e4, e5, e6⟩ := hpt j h1 h2
        refine ⟨e1, e2, e3, e4, ?_, e6⟩
        by_cases e : j = p
        · rw [e, pk_us, pk_us]
        · rw [pk_un e, pk_un e]; exact e5
      have hrng' : ∀ j, j ≤ 60 → (xf V 8 j = -1 ∨ (j ≤ xnq V ∧ 0 ≤ (xf V 8 j).toInt ∧ inL (xg V 9 j) 1 1000 = true ∧ inL (xg V 10 j) 1 1000 = true)) ∧ (upd (xf V 11) p v j = -1 ∨ (j ≤ xnq V ∧ 0 ≤ (upd (xf V 11) p v j).toInt)) := by
        intro j hj
        refine ⟨(hrng j hj).1, ?_⟩
        by_cases e : j = p
        · rw [e, pk_us]; exact Or.inr ⟨hp2, (inB_of hk).1⟩
        · rw [pk_un e]; exact (hrng j hj).2
      exact ⟨rfl, ⟨⟨n1, n2, n3, n4⟩, hc, hh, hm, hpt', hul, hrng', hld, hli, hrc, hap, har, hkn⟩, hl⟩
    · rw [if_neg hk, if_neg hk]
      exact ⟨rfl, rel_m0 h0⟩
  · rw [if_neg hin, if_neg (show ¬ inB x 1 (mnq M) = true by rw [n2]; exact hin)]
    exact ⟨rfl, rel_m0 h0⟩
/-- connect -/
theorem keep_conn {V : XV} {M : MV} (h : Rel2 V M) (x y : Int32) : (xConn V x y).1 = (mConn M x y).1 ∧ Rel2 (xConn V x y).2 (mConn M x y).2 := by
  have h0 := h
  obtain ⟨⟨⟨n1, n2, n3, n4⟩, hc, hh, hm, hpt, hul, hrng, hld, hli, hrc, hap, har, hkn⟩, hl⟩ := h
  unfold xConn mConn
  by_cases hin : inB x 1 (xnq V) = true ∧ inB y 1 (xnq V) = true
  · rw [if_pos hin, if_pos (show inB x 1 (mnq M) = true ∧ inB y 1 (mnq M) = true by rw [n2]; exact hin)]
    obtain ⟨p, hp1, hp2, rfl⟩ := inB_nI (by omega) hin.1
    obtain ⟨q, hq1, hq2, rfl⟩ := inB_nI (by omega) hin.2
    obtain ⟨p5, p6, p7, -, -, u, u1, u2, u3⟩ := hpt p hp1 hp2
    obtain ⟨q5, q6, q7, -, -, v, v1, v2, v3⟩ := hpt q hq1 hq2
    rw [nI_clamp (show p < 2 ^ 31 by omega), nI_clamp (show q < 2 ^ 31 by omega), p5, q5, u3, v3, nI_clamp (show u < 2 ^ 31 by omega), nI_clamp (show v < 2 ^ 31 by omega), p6, q6]
    have hw : xWay V p q u v = mWay M p q u v := by
      unfold xWay mWay
      rw [p7, q7, (hc u u1 u2).1, (hc v v1 v2).1]
    rw [hw]
    by_cases hk : mf M 5 p = mf M 5 q ∧ mWay M p q u v = true
    · rw [if_pos hk, if_pos hk, hld p q (by omega) (by omega)]
      by_cases hz : mf M 15 (61 * p + q) = 0
      · have hz2 : ¬ mL M p q = true := by unfold mL; rw [decide_eq_true hz]; decide
        rw [if_neg hz2, if_pos hz]
        have hidx : ∀ a b, a ≤ 60 → b ≤ 60 → (61 * a + b = 61 * p + q ↔ a = p ∧ b = q) := fun a b h1 h2 => by omega
        have hL' : ∀ a b, a ≤ 60 → b ≤ 60 → (!decide (upd (mf M 15) (61 * p + q) 1 (61 * a + b) = 0)) = (mL M a b || (a == p && b == q)) := by
          intro a b h1 h2
          unfold mL
          by_cases e : a = p ∧ b = q
          · obtain ⟨rfl, rfl⟩ := e
            rw [pk_us]; simp
          · rw [pk_un (fun z => e ((hidx a b h1 h2).mp z))]
            have e2 : (a == p && b == q) = false := by
              rw [Bool.and_eq_false_iff]
              by_cases ea : a = p
              · right; simpa using fun z => e ⟨ea, z⟩
              · left; simpa using ea
            rw [e2, Bool.or_false]
        have hld' : ∀ a b, a ≤ 60 → b ≤ 60 → lb (vp_updL (xg V 15) p (xg V 15 p ||| lbit q) a) b = (!decide (upd (mf M 15) (61 * p + q) 1 (61 * a + b) = 0)) := by
          intro a b h1 h2
          rw [hL' a b h1 h2]
          by_cases e : a = p
          · rw [e, pk_uLs, lb_or, lb_bit (by omega), hld p b (by omega) h2]
            congr 1
            by_cases eb : q = b
            · subst eb; simp
            · rw [decide_eq_false eb]; simp [Ne.symm eb]
          · rw [pk_uLn e, hld a b h1 h2]; simp [e]
        have hli' : ∀ a b, a ≤ 60 → b ≤ 60 → (!decide (upd (mf M 15) (61 * p + q) 1 (61 * a + b) = 0)) = true → (1 ≤ a ∧ a ≤ xnq V) ∧ (1 ≤ b ∧ b ≤ xnq V) := by
          intro a b h1 h2 h3
          rw [hL' a b h1 h2, Bool.or_eq_true] at h3
          rcases h3 with h3 | h3
          · exact hli a b h1 h2 h3
          · simp only [Bool.and_eq_true, beq_iff_eq] at h3; omega
        have hrc' : ∀ a b, a ≤ 60 → lb (pu_spread p (xg V 16 q ||| lbit q) (xnq V) 1 (xg V 16) a) b = (decide ((1 ≤ a ∧ a ≤ xnq V) ∧ (1 ≤ b ∧ b ≤ xnq V)) && pu_wl (fun a b => !decide (upd (mf M 15) (61 * p + q) 1 (61 * a + b) = 0)) (mnq M) a b) := by
          intro a b h1
          rw [pu_spread_at, n2]
          by_cases hr : (1 ≤ a ∧ a ≤ xnq V) ∧ (1 ≤ b ∧ b ≤ xnq V)
          · rw [decide_eq_true hr, Bool.true_and, ← pu_wl_add (L := mL M) hp1 hp2 hq1 hq2 (fun a b a1 a2 a3 a4 => hL' a b (by omega) (by omega)) a b hr.1.1 hr.1.2 hr.2.1 hr.2.2]
            have r1 := hrc a b h1
            have r2 := hrc a p h1
            have r3 := hrc q b (by omega)
            unfold mR at r1 r2 r3
            rw [n2] at r1 r2 r3
            rw [decide_eq_true hr, Bool.true_and] at r1
            rw [decide_eq_true (show (1 ≤ a ∧ a ≤ xnq V) ∧ (1 ≤ p ∧ p ≤ xnq V) by omega), Bool.true_and] at r2
            rw [decide_eq_true (show (1 ≤ q ∧ q ≤ xnq V) ∧ (1 ≤ b ∧ b ≤ xnq V) by omega), Bool.true_and] at r3
            unfold pu_add
            by_cases hcn : a = p ∨ lb (xg V 16 a) p = true
            · rw [if_pos ⟨by omega, hcn⟩, lb_or, lb_or, lb_bit (by omega), r1, r3]
              have e : (a == p || pu_wl (mL M) (xnq V) a p) = true := by
                rcases hcn with e | e
                · simp [e]
                · rw [← r2, e, Bool.or_true]
              rw [e, Bool.true_and]
              congr 1
              by_cases eb : q = b
              · subst eb; simp
              · rw [decide_eq_false eb]; simp [Ne.symm eb]
            · rw [if_neg (fun z => hcn z.2), r1]
              have e : (a == p || pu_wl (mL M) (xnq V) a p) = false := by
                rw [← r2, Bool.or_eq_false_iff]
                refine ⟨by simpa using fun z => hcn (Or.inl z), ?_⟩
                cases e9 : lb (xg V 16 a) p with
                | false => rfl
                | true => exact absurd (Or.inr e9) hcn
              rw [e, Bool.false_and, Bool.or_false]
          · rw [decide_eq_false hr, Bool.false_and]
            have r1 := hrc a b h1
            rw [decide_eq_false hr, Bool.false_and] at r1
            by_cases hcn : (1 ≤ a ∧ a < 1 + xnq V) ∧ (a = p ∨ lb (xg V 16 a) p = true)
            · rw [if_pos hcn, lb_or, lb_or, lb_bit (by omega), r1]
              have r3 := hrc q b (by omega)
              rw [decide_eq_false (show ¬ ((1 ≤ q ∧ q ≤ xnq V) ∧ (1 ≤ b ∧ b ≤ xnq V)) by omega), Bool.false_and] at r3
              rw [r3, decide_eq_false (show ¬ q = b by omega)]
              rfl
            · rw [if_neg hcn, r1]
        exact ⟨rfl, ⟨⟨n1, n2, n3, n4⟩, hc, hh, hm, hpt, hul, hrng, hld', hli', hrc', hap, har, fun z => absurd rfl z⟩, fun k hk => by
          by_cases e : k = 61 * p + q
          · exact Or.inr (by rw [e]; exact pk_us)
          · exact (hl k hk).imp (fun z => (pk_un e).trans z) (fun z => (pk_un e).trans z)⟩
      · have hz2 : mL M p q = true := by unfold mL; rw [decide_eq_false hz]; rfl
        rw [if_pos hz2, if_neg hz]
        exact ⟨rfl, rel_m0 h0⟩
    · rw [if_neg hk, if_neg hk]
      exact ⟨rfl, rel_m0 h0⟩
  · rw [if_neg hin, if_neg (show ¬ (inB x 1 (mnq M) = true ∧ inB y 1 (mnq M) = true) by rw [n2]; exact hin)]
    exact ⟨rfl, rel_m0 h0⟩
