/-! THE LAW: what its loop keeps -/
abbrev oW (cA : Nat → ClassId) (ob : Nat) (o : Nat → Int64) : va_W := [(ob, .inl (cA 2, 1, .inr (.inl o)))]
def LI (s : State) (G : va_G) (cA : Nat → ClassId) (ax am : Nat → Nat) (ob : Nat) (H : Heap) (locs : List Loc) (V : XV) (M : MV) : Prop := ∃ o : Nat → Int64, va_P G vwC2 (xW cA ax V) H ∧ va_P G vwC2 (mW cA am M) H ∧ va_P G vwC2 (oW cA ob o) H ∧ va_D (fun q => s.heap.size ≤ q) (xW cA ax V ++ (mW cA am M ++ oW cA ob o)) ∧ va_S (fun q => s.heap.size ≤ q) s.heap H locs ∧ Rel2 V M
theorem va_Pl {D : va_G} {cl : List vw_C} {w1 w2 : va_W} {H : Heap} (h : va_P D cl (w1 ++ w2) H) : va_P D cl w1 H := fun k q hk => h k q (by rw [List.getElem?_append_left (List.getElem?_eq_some_iff.mp hk).1]; exact hk)
theorem va_Pr {D : va_G} {cl : List vw_C} {w1 w2 : va_W} {H : Heap} (h : va_P D cl (w1 ++ w2) H) : va_P D cl w2 H := fun k q hk => h (w1.length + k) q (by rw [List.getElem?_append_right (by omega), Nat.add_sub_cancel_left]; exact hk)
theorem hD_xm {A : Nat → Prop} {cA : Nat → ClassId} {ax am : Nat → Nat} {ob : Nat} {o : Nat → Int64} {V : XV} {M : MV} (h : va_D A (xW cA ax V ++ (mW cA am M ++ oW cA ob o))) : va_D A (mW cA am M ++ (xW cA ax V ++ oW cA ob o)) := h.sub [16, 17, 18, 19, 20, 21, 22, 23, 24, 25, 26, 27, 28, 29, 30, 0, 1, 2, 3, 4, 5, 6, 7, 8, 9, 10, 11, 12, 13, 14, 15, 31] (by decide) rfl
theorem hD_mx {A : Nat → Prop} {cA : Nat → ClassId} {ax am : Nat → Nat} {ob : Nat} {o : Nat → Int64} {V : XV} {M : MV} (h : va_D A (mW cA am M ++ (xW cA ax V ++ oW cA ob o))) : va_D A (xW cA ax V ++ (mW cA am M ++ oW cA ob o)) := h.sub [15, 16, 17, 18, 19, 20, 21, 22, 23, 24, 25, 26, 27, 28, 29, 30, 0, 1, 2, 3, 4, 5, 6, 7, 8, 9, 10, 11, 12, 13, 14, 31] (by decide) rfl
theorem lw_len {L : Nat} (h : L ≤ 3584) : (Int32.ofNat L - 7).toInt = (L : Int) - 7 := by
  by_cases h7 : 7 ≤ L
  · have e1 : Int32.ofNat L - 7 = nI (L - 7) := ni_sub (u := L) (c := 7) h7
    rw [e1, nI_toInt (by omega)]
    omega
  · rcases (show L = 0 ∨ L = 1 ∨ L = 2 ∨ L = 3 ∨ L = 4 ∨ L = 5 ∨ L = 6 by omega) with q | q | q | q | q | q | q <;> subst q <;> decide
theorem rel_fc {V : XV} {M : MV} (h : Rel V M) (x : Int32) : xFc V x = mFc M x := by
  unfold xFc mFc
  split
  · rfl
  · exact rel_at h _
theorem rel_dv {V : XV} {M : MV} (h : Rel V M) : ∀ p0 q0, 1 ≤ p0 → p0 ≤ mnq M → 1 ≤ q0 → q0 ≤ mnq M → 0 ≤ (mf M 7 p0).toInt → 0 ≤ (mf M 7 q0).toInt → ¬ mg M 9 p0 * mg M 8 q0 = 0 := fun p0 q0 h1 h2 h3 h4 h5 h6 =>
  of_decide_eq_false (lrm_ne ((rel_mOK h).2.2.2.1 p0 h1 h2 h5).2 ((rel_mOK h).2.2.2.1 q0 h3 h4 h6).1)
theorem rel_open {V : XV} {M : MV} (h : Rel V M) (x : Int32) : (if x.toInt < 0 then 0 else nI (xOp V x.toNatClampNeg)) = mOpA M x := by
  unfold mOpA
  split
  · rfl
  · rw [rel_op h]
section SLD
variable {p : Program} {l : Launch} {e : Env} {R : Room} {s : State} {m : MethodId} {args : Array Value} {below : List Frame} {meth : Method} {c : Code} {H : Heap} {locs : List Loc} {cells slots : Nat} {Q : State → Prop}
variable {cc : ByteArray} {pc : Nat} {ls : Array Slot} {rest : List Value} {A : Nat → Prop} {H0 : Heap}
theorem ls_sld (hexec : p.tables.exec = Jvm.exec) (hb : c.code = cc) {b L : Nat} {xs : Nat → Int32} (hX : va_X b L xs s H0) (hbl : b < H0.size) (hbA : ¬ A b) (hS : va_S A H0 H locs) {i : Nat} (hi : i < L) (hL : L < 2 ^ 31) (hdg : decode cc pc = .ok (.iaload, 1))
    (kk : W p l e R s m args below meth c H locs cells slots Q (F0 m (pc + 1) ls (.int (xs i) :: rest))) : W p l e R s m args below meth c H locs cells slots Q (F0 m pc ls (.int (nI i) :: .ref b :: rest)) := by
  refine va_sld hexec hb hX hbl hbA hS (vp_in_nI hi hL) hdg ?_
  rw [nI_clamp (by omega)]
  exact kk
end SLD
