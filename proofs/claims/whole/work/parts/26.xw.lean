/-! X: the methods that write -/
set_option maxHeartbeats 4000000 in
set_option maxRecDepth 100000 in
theorem cx_addAtomicPort (l : Launch) (G : va_G) (cA : Nat → ClassId) (a : Nat → Nat) (V : XV) (j : Nat) (hj : j ≤ 60) : Met l yX0_addAtomicPort wsX0_addAtomicPort { frames := 1, cells := 0, slots := 0, locals := 20 } (mu_Pc G vwC2 (tT cA) (xW cA a V) [.ref (a 0), .int (nI j)]) (mu_Q G vwC2 (xW cA a V) (fun _ => none) (fun u9 : XV => u9 = xAdd V j) (fun u9 => xW cA a u9)) 0 0 (mu_A (xW cA a V)) := by
  refine Met.ofW (cc := cX0_addAtomicPort) (maxL := 2) (ret := none) (by decide) rfl ?_
  intro p e s m args below meth c s₁ B hml hv
  obtain ⟨rfl, hP, hK, hD0⟩ := hv
  have hx := B.exec
  have hb := B.bytes
  have hr := B.returns
  have hts := atoms_spec (ws := wsX0_addAtomicPort) B.pre
  have hown : s.vm.findClass RX0 = some m.cls := findClass_of_methodNamed B.named
  have hlocks := B.notSynchronized
  have hD := mu_own hD0
  have hS : va_S (mu_A (xW cA a V)) s.heap s.heap [] := va_S.rf
  have hfi : ∀ w ∈ u_ws RX0 TX0 19, w ∈ wsX0_addAtomicPort := by decide +kernel
  have hl := lv_entry ([.ref (a 0), .int (nI j)]) (n := 2) (Nat.le_of_ble_eq_true rfl)
  rw [lg_entry_eq]
  generalize (lg_sl ([.ref (a 0), .int (nI j)]) ++ List.replicate (2 - (lg_sl ([.ref (a 0), .int (nI j)])).length) Slot.unset).toArray = ls at hl ⊢
  have hl : lv_has ls 2 [(0, .ref (a 0)), (1, .int (nI j))] := hl
  refine lv_aload_n hx hb dX0_addAtomicPort_0 rfl (lv_at hl 0 rfl) ?_
  refine va_get (D := G) (ci := 0) (v := .ref (a 7)) (C := RX0) (T := TX0) (N := 19) hx hb hts hfi hown hK hP 0 rfl rfl 7 (by decide) (hts (.fieldLink RX0 26 "PortRules" "isProvided" "[Z") (by decide +kernel)) (fun _ h9 => h9) rfl dX0_addAtomicPort_1 ?_
  refine lv_iload_n hx hb dX0_addAtomicPort_4 rfl (lv_at hl 1 rfl) ?_
  refine rd_zald hx hb hK hP 6 1 rfl rfl (by omega) (by decide) dX0_addAtomicPort_5 ?_
  refine lv_if_eq (tgt := 25) hx hb dX0_addAtomicPort_6 (by decide) (fun c6 => ?_) (fun c6 => ?_)
  · refine lv_aload_n hx hb dX0_addAtomicPort_25 rfl (lv_at hl 0 rfl) ?_
    refine lv_dup hx hb dX0_addAtomicPort_26 rfl ?_
    refine va_get (D := G) (ci := 0) (v := .long (xar V)) (C := RX0) (T := TX0) (N := 19) hx hb hts hfi hown hK hP 0 rfl rfl 18 (by decide) (hts (.fieldLink RX0 134 "PortRules" "atomicRequired" "J") (by decide +kernel)) (fun _ h9 => h9) rfl dX0_addAtomicPort_27 ?_
    refine lv_iload_n hx hb dX0_addAtomicPort_30 rfl (lv_at hl 1 rfl) ?_
    refine rd_callS (As := [.int (nI j)]) (rest := [.long (xar V), .ref (a 0)]) ⟨hx, hb, hml, hown, hts⟩ (cx_bit l j) (va_cwS 1 hts gX0_addAtomicPort_X0_bit rfl rfl rfl (by decide +kernel) ⟨Nat.le_of_ble_eq_true rfl, Nat.le_of_ble_eq_true rfl⟩) rfl hl.1 rfl (Nat.le_of_ble_eq_true rfl) dX0_addAtomicPort_31 ⟨Nat.zero_le _, Nat.zero_le _⟩ ?_
    refine lv_lor hx hb dX0_addAtomicPort_34 ?_
    refine va_put (D := G) (ci := 0) (v := .long ((xar V) ||| (lbit j))) (ty := .long) (C := RX0) (T := TX0) (N := 19) hx hb hts hfi tyX0 tyX0_ok nmX0 hown hK hP hD hS 0 rfl rfl 18 (by decide) (hts (.fieldLink RX0 134 "PortRules" "atomicRequired" "J") (by decide +kernel)) (fun _ h9 => h9) rfl (by decide +kernel) rfl rfl (Nat.le_of_ble_eq_true rfl) dX0_addAtomicPort_35 (fun H locs hP hD hS => ?_)
    have hP : va_P G vwC2 (xW cA a (xnp V, xnq V, xap V, (xar V) ||| (lbit j), xf V, xg V)) H := hP
    have hD : va_D (mu_A (xW cA a V)) (xW cA a (xnp V, xnq V, xap V, (xar V) ||| (lbit j), xf V, xg V)) := hD
    exact mu_vret ((xnp V, xnq V, xap V, (xar V) ||| (lbit j), xf V, xg V)) hx hb hr hS hP (by unfold xAdd; rw [if_pos c6, if_pos c6]) (rfl) dX0_addAtomicPort_38 hlocks
  · refine lv_aload_n hx hb dX0_addAtomicPort_9 rfl (lv_at hl 0 rfl) ?_
    refine lv_dup hx hb dX0_addAtomicPort_10 rfl ?_
    refine va_get (D := G) (ci := 0) (v := .long (xap V)) (C := RX0) (T := TX0) (N := 19) hx hb hts hfi hown hK hP 0 rfl rfl 17 (by decide) (hts (.fieldLink RX0 146 "PortRules" "atomicProvided" "J") (by decide +kernel)) (fun _ h9 => h9) rfl dX0_addAtomicPort_11 ?_
    refine lv_iload_n hx hb dX0_addAtomicPort_14 rfl (lv_at hl 1 rfl) ?_
    refine rd_callS (As := [.int (nI j)]) (rest := [.long (xap V), .ref (a 0)]) ⟨hx, hb, hml, hown, hts⟩ (cx_bit l j) (va_cwS 1 hts gX0_addAtomicPort_X0_bit rfl rfl rfl (by decide +kernel) ⟨Nat.le_of_ble_eq_true rfl, Nat.le_of_ble_eq_true rfl⟩) rfl hl.1 rfl (Nat.le_of_ble_eq_true rfl) dX0_addAtomicPort_15 ⟨Nat.zero_le _, Nat.zero_le _⟩ ?_
    refine lv_lor hx hb dX0_addAtomicPort_18 ?_
    refine va_put (D := G) (ci := 0) (v := .long ((xap V) ||| (lbit j))) (ty := .long) (C := RX0) (T := TX0) (N := 19) hx hb hts hfi tyX0 tyX0_ok nmX0 hown hK hP hD hS 0 rfl rfl 17 (by decide) (hts (.fieldLink RX0 146 "PortRules" "atomicProvided" "J") (by decide +kernel)) (fun _ h9 => h9) rfl (by decide +kernel) rfl rfl (Nat.le_of_ble_eq_true rfl) dX0_addAtomicPort_19 (fun H locs hP hD hS => ?_)
    have hP : va_P G vwC2 (xW cA a (xnp V, xnq V, (xap V) ||| (lbit j), xar V, xf V, xg V)) H := hP
    have hD : va_D (mu_A (xW cA a V)) (xW cA a (xnp V, xnq V, (xap V) ||| (lbit j), xar V, xf V, xg V)) := hD
    refine lv_goto (tgt := 38) hx hb dX0_addAtomicPort_22 (by decide) ?_
    exact mu_vret ((xnp V, xnq V, (xap V) ||| (lbit j), xar V, xf V, xg V)) hx hb hr hS hP (by unfold xAdd; rw [if_neg c6, if_neg c6]) (rfl) dX0_addAtomicPort_38 hlocks
set_option maxHeartbeats 4000000 in
set_option maxRecDepth 100000 in
theorem cx_endAtomic (l : Launch) (G : va_G) (cA : Nat → ClassId) (a : Nat → Nat) (V : XV) (c0 : Nat) (h60 : xnq V ≤ 60) (hc0 : c0 ≤ 30) : Met l yX0_endAtomic wsX0_endAtomic { frames := 1, cells := 0, slots := 0, locals := 20 } (mu_Pc G vwC2 (tT cA) (xW cA a V) [.ref (a 0), .int (nI c0)]) (mu_Q G vwC2 (xW cA a V) (fun _ => none) (fun u9 : XV => u9 = xEnd V c0) (fun u9 => xW cA a u9)) 0 0 (mu_A (xW cA a V)) := by
  refine Met.ofW (cc := cX0_endAtomic) (maxL := 3) (ret := none) (by decide) rfl ?_
  intro p e s m args below meth c s₁ B hml hv
  obtain ⟨rfl, hP, hK, hD0⟩ := hv
  have hx := B.exec
  have hb := B.bytes
  have hr := B.returns
  have hts := atoms_spec (ws := wsX0_endAtomic) B.pre
  have hown : s.vm.findClass RX0 = some m.cls := findClass_of_methodNamed B.named
  have hlocks := B.notSynchronized
  have hD := mu_own hD0
  have hS : va_S (mu_A (xW cA a V)) s.heap s.heap [] := va_S.rf
  have hfi : ∀ w ∈ u_ws RX0 TX0 19, w ∈ wsX0_endAtomic := by decide +kernel
  have hl := lv_entry ([.ref (a 0), .int (nI c0)]) (n := 3) (Nat.le_of_ble_eq_true rfl)
  rw [lg_entry_eq]
  generalize (lg_sl ([.ref (a 0), .int (nI c0)]) ++ List.replicate (3 - (lg_sl ([.ref (a 0), .int (nI c0)])).length) Slot.unset).toArray = ls at hl ⊢
  have hl : lv_has ls 3 [(0, .ref (a 0)), (1, .int (nI c0))] := hl
  refine lv_aload_n hx hb dX0_endAtomic_0 rfl (lv_at hl 0 rfl) ?_
  refine va_get (D := G) (ci := 0) (v := .ref (a 2)) (C := RX0) (T := TX0) (N := 19) hx hb hts hfi hown hK hP 0 rfl rfl 2 (by decide) (hts (.fieldLink RX0 13 "PortRules" "hasInnerParts" "[Z") (by decide +kernel)) (fun _ h9 => h9) rfl dX0_endAtomic_1 ?_
  refine lv_iload_n hx hb dX0_endAtomic_4 rfl (lv_at hl 1 rfl) ?_
  refine lv_iconst (v := 1) hx hb dX0_endAtomic_5 (by decide) ?_
  refine mu_zast hx hb hK hP hD hS 2 1 rfl rfl (by omega) (by decide) rfl dX0_endAtomic_6 (ws1 := xW cA a (xnp V, xnq V, xap V, xar V, va_up (xf V) 2 (upd (xf V 2) c0 1), xg V)) rfl (fun H locs hP hD hS => ?_)
  refine lv_iconst (v := nI 1) hx hb dX0_endAtomic_7 (by decide) ?_
  refine lv_istore_n (lv' := [(2, .int (nI 1)), (0, .ref (a 0)), (1, .int (nI c0))]) hx hb dX0_endAtomic_8 rfl hl (by decide) rfl (fun ls hl => ?_)
  refine mu_loop (H0 := s.heap) (fun k ls H locs => ∃ (i : Nat) (x y : Int64), 1 ≤ i ∧ i + k = xnq V + 1 ∧ pu_cut (fun j => decide (xf V 5 j = nI c0)) k i x = pu_cut (fun j => decide (xf V 5 j = nI c0)) (xnq V) 1 (xap V) ∧ pu_cut (fun j => decide (xf V 5 j = nI c0)) k i y = pu_cut (fun j => decide (xf V 5 j = nI c0)) (xnq V) 1 (xar V) ∧ va_P G vwC2 (xW cA a (xnp V, xnq V, x, y, va_up (xf V) 2 (upd (xf V 2) c0 1), xg V)) H ∧ va_D (mu_A (xW cA a V)) (xW cA a (xnp V, xnq V, x, y, va_up (xf V) 2 (upd (xf V 2) c0 1), xg V)) ∧ va_S (mu_A (xW cA a V)) s.heap H locs ∧ lv_has ls 3 [(2, .int (nI i)), (0, .ref (a 0)), (1, .int (nI c0))]) ?_ (xnq V) ls H locs ⟨1, xap V, xar V, by omega, by omega, rfl, rfl, hP, hD, hS, (lv_sub hl [0, 1, 2] rfl)⟩
  intro k9 ls H locs ⟨i, x, y, hi, hk, h1, h2, hP, hD, hS, hl⟩ ih9
  refine lv_iload_n hx hb dX0_endAtomic_9 rfl (lv_at hl 0 rfl) ?_
  refine lv_aload_n hx hb dX0_endAtomic_10 rfl (lv_at hl 1 rfl) ?_
  refine va_get (D := G) (ci := 0) (v := .int (nI (xnq V))) (C := RX0) (T := TX0) (N := 19) hx hb hts hfi hown hK hP 0 rfl rfl 4 (by decide) (hts (.fieldLink RX0 75 "PortRules" "portCount" "I") (by decide +kernel)) (fun _ h9 => h9) rfl dX0_endAtomic_11 ?_
  refine nb_gt (tgt := 67) hx hb dX0_endAtomic_14 (by decide) (by omega) (by omega) (fun c14 => ?_) (fun c14 => ?_)
  · exact mu_vret ((xnp V, xnq V, x, y, va_up (xf V) 2 (upd (xf V 2) c0 1), xg V)) hx hb hr hS hP (by unfold xEnd; rw [← h1, ← h2, show k9 = 0 by omega]; rfl) (rfl) dX0_endAtomic_67 hlocks
  · obtain ⟨k9, rfl⟩ : ∃ z, k9 = z + 1 := ⟨k9 - 1, by omega⟩
    refine lv_aload_n hx hb dX0_endAtomic_17 rfl (lv_at hl 1 rfl) ?_
    refine va_get (D := G) (ci := 0) (v := .ref (a 5)) (C := RX0) (T := TX0) (N := 19) hx hb hts hfi hown hK hP 0 rfl rfl 5 (by decide) (hts (.fieldLink RX0 20 "PortRules" "partOf" "[I") (by decide +kernel)) (fun _ h9 => h9) rfl dX0_endAtomic_18 ?_
    refine lv_iload_n hx hb dX0_endAtomic_21 rfl (lv_at hl 0 rfl) ?_
    refine rd_iald hx hb hK hP 4 0 rfl rfl (by omega) (by decide) dX0_endAtomic_22 ?_
    refine lv_iload_n hx hb dX0_endAtomic_23 rfl (lv_at hl 2 rfl) ?_
    refine lv_icmp_ne (tgt := 61) hx hb dX0_endAtomic_24 (by decide) (fun c24 => ?_) (fun c24 => ?_)
    · refine lv_iinc (v := nI (i + 1)) (lv' := [(2, .int (nI (i + 1))), (0, .ref (a 0)), (1, .int (nI c0))]) hx hb dX0_endAtomic_61 hl (k := 0) rfl (ni_inc _) (by decide) rfl (fun ls hl => ?_)
      refine lv_goto (tgt := 9) hx hb dX0_endAtomic_64 (by decide) ?_
      exact ih9 k9 ls H locs (by omega) ⟨i + 1, x, y, by omega, by omega, (pu_cut_f (P := (fun j => decide (xf V 5 j = nI c0))) (decide_eq_false c24)).symm.trans h1, (pu_cut_f (P := (fun j => decide (xf V 5 j = nI c0))) (decide_eq_false c24)).symm.trans h2, hP, hD, hS, (lv_sub hl [0, 1, 2] rfl)⟩
    · refine lv_aload_n hx hb dX0_endAtomic_27 rfl (lv_at hl 1 rfl) ?_
      refine lv_dup hx hb dX0_endAtomic_28 rfl ?_
      refine va_get (D := G) (ci := 0) (v := .long x) (C := RX0) (T := TX0) (N := 19) hx hb hts hfi hown hK hP 0 rfl rfl 17 (by decide) (hts (.fieldLink RX0 146 "PortRules" "atomicProvided" "J") (by decide +kernel)) (fun _ h9 => h9) rfl dX0_endAtomic_29 ?_
      refine lv_iload_n hx hb dX0_endAtomic_32 rfl (lv_at hl 0 rfl) ?_
      refine rd_callS (As := [.int (nI i)]) (rest := [.long x, .ref (a 0)]) ⟨hx, hb, hml, hown, hts⟩ (cx_bit l i) (va_cwS 1 hts gX0_endAtomic_X0_bit rfl rfl rfl (by decide +kernel) ⟨Nat.le_of_ble_eq_true rfl, Nat.le_of_ble_eq_true rfl⟩) rfl hl.1 rfl (Nat.le_of_ble_eq_true rfl) dX0_endAtomic_33 ⟨Nat.zero_le _, Nat.zero_le _⟩ ?_
      refine lv_ldc2 (v := -1) hx hb hown (hts (.constantLong RX0 142 (-1)) (by decide +kernel)) dX0_endAtomic_36 ?_
      refine lv_lxor hx hb dX0_endAtomic_39 ?_
      refine lv_land hx hb dX0_endAtomic_40 ?_
      refine va_put (D := G) (ci := 0) (v := .long (x &&& ((lbit i) ^^^ (-1)))) (ty := .long) (C := RX0) (T := TX0) (N := 19) hx hb hts hfi tyX0 tyX0_ok nmX0 hown hK hP hD hS 0 rfl rfl 17 (by decide) (hts (.fieldLink RX0 146 "PortRules" "atomicProvided" "J") (by decide +kernel)) (fun _ h9 => h9) rfl (by decide +kernel) rfl rfl (Nat.le_of_ble_eq_true rfl) dX0_endAtomic_41 (fun H locs hP hD hS => ?_)
      have hP : va_P G vwC2 (xW cA a (xnp V, xnq V, x &&& ((lbit i) ^^^ (-1)), y, va_up (xf V) 2 (upd (xf V 2) c0 1), xg V)) H := hP
      have hD : va_D (mu_A (xW cA a V)) (xW cA a (xnp V, xnq V, x &&& ((lbit i) ^^^ (-1)), y, va_up (xf V) 2 (upd (xf V 2) c0 1), xg V)) := hD
      refine lv_aload_n hx hb dX0_endAtomic_44 rfl (lv_at hl 1 rfl) ?_
      refine lv_dup hx hb dX0_endAtomic_45 rfl ?_
      refine va_get (D := G) (ci := 0) (v := .long y) (C := RX0) (T := TX0) (N := 19) hx hb hts hfi hown hK hP 0 rfl rfl 18 (by decide) (hts (.fieldLink RX0 134 "PortRules" "atomicRequired" "J") (by decide +kernel)) (fun _ h9 => h9) rfl dX0_endAtomic_46 ?_
      refine lv_iload_n hx hb dX0_endAtomic_49 rfl (lv_at hl 0 rfl) ?_
      refine rd_callS (As := [.int (nI i)]) (rest := [.long y, .ref (a 0)]) ⟨hx, hb, hml, hown, hts⟩ (cx_bit l i) (va_cwS 1 hts gX0_endAtomic_X0_bit rfl rfl rfl (by decide +kernel) ⟨Nat.le_of_ble_eq_true rfl, Nat.le_of_ble_eq_true rfl⟩) rfl hl.1 rfl (Nat.le_of_ble_eq_true rfl) dX0_endAtomic_50 ⟨Nat.zero_le _, Nat.zero_le _⟩ ?_
      refine lv_ldc2 (v := -1) hx hb hown (hts (.constantLong RX0 142 (-1)) (by decide +kernel)) dX0_endAtomic_53 ?_
      refine lv_lxor hx hb dX0_endAtomic_56 ?_
      refine lv_land hx hb dX0_endAtomic_57 ?_
      refine va_put (D := G) (ci := 0) (v := .long (y &&& ((lbit i) ^^^ (-1)))) (ty := .long) (C := RX0) (T := TX0) (N := 19) hx hb hts hfi tyX0 tyX0_ok nmX0 hown hK hP hD hS 0 rfl rfl 18 (by decide) (hts (.fieldLink RX0 134 "PortRules" "atomicRequired" "J") (by decide +kernel)) (fun _ h9 => h9) rfl (by decide +kernel) rfl rfl (Nat.le_of_ble_eq_true rfl) dX0_endAtomic_58 (fun H locs hP hD hS => ?_)
      have hP : va_P G vwC2 (xW cA a (xnp V, xnq V, x &&& ((lbit i) ^^^ (-1)), y &&& ((lbit i) ^^^ (-1)), va_up (xf V) 2 (upd (xf V 2) c0 1), xg V)) H := hP
      have hD : va_D (mu_A (xW cA a V)) (xW cA a (xnp V, xnq V, x &&& ((lbit i) ^^^ (-1)), y &&& ((lbit i) ^^^ (-1)), va_up (xf V) 2 (upd (xf V 2) c0 1), xg V)) := hD
      refine lv_iinc (v := nI (i + 1)) (lv' := [(2, .int (nI (i + 1))), (0, .ref (a 0)), (1, .int (nI c0))]) hx hb dX0_endAtomic_61 hl (k := 0) rfl (ni_inc _) (by decide) rfl (fun ls hl => ?_)
      refine lv_goto (tgt := 9) hx hb dX0_endAtomic_64 (by decide) ?_
      exact ih9 k9 ls H locs (by omega) ⟨i + 1, x &&& (lbit i ^^^ (-1)), y &&& (lbit i ^^^ (-1)), by omega, by omega, (pu_cut_t (P := (fun j => decide (xf V 5 j = nI c0))) (decide_eq_true c24)).symm.trans h1, (pu_cut_t (P := (fun j => decide (xf V 5 j = nI c0))) (decide_eq_true c24)).symm.trans h2, hP, hD, hS, (lv_sub hl [0, 1, 2] rfl)⟩
set_option maxHeartbeats 4000000 in
set_option maxRecDepth 100000 in
theorem cx_spreadReach (l : Launch) (G : va_G) (cA : Nat → ClassId) (a : Nat → Nat) (V : XV) (p0 q0 : Nat) (h60 : xnq V ≤ 60) (hp : p0 ≤ 60) (hq : q0 ≤ 60) : Met l yX0_spreadReach wsX0_spreadReach { frames := 2, cells := 0, slots := 0, locals := 42 } (mu_Pc G vwC2 (tT cA) (xW cA a V) [.ref (a 0), .int (nI p0), .int (nI q0)]) (mu_Q G vwC2 (xW cA a V) (fun _ => none) (fun u9 : XV => u9 = xSpread V p0 q0) (fun u9 => xW cA a u9)) 0 0 (mu_A (xW cA a V)) := by
  refine Met.ofW (cc := cX0_spreadReach) (maxL := 6) (ret := none) (by decide) rfl ?_
  intro p e s m args below meth c s₁ B hml hv
  obtain ⟨rfl, hP, hK, hD0⟩ := hv
  have hx := B.exec
  have hb := B.bytes
  have hr := B.returns
  have hts := atoms_spec (ws := wsX0_spreadReach) B.pre
  have hown : s.vm.findClass RX0 = some m.cls := findClass_of_methodNamed B.named
  have hlocks := B.notSynchronized
  have hD := mu_own hD0
  have hS : va_S (mu_A (xW cA a V)) s.heap s.heap [] := va_S.rf
  have hfi : ∀ w ∈ u_ws RX0 TX0 19, w ∈ wsX0_spreadReach := by decide +kernel
  have hl := lv_entry ([.ref (a 0), .int (nI p0), .int (nI q0)]) (n := 6) (Nat.le_of_ble_eq_true rfl)
  rw [lg_entry_eq]
  generalize (lg_sl ([.ref (a 0), .int (nI p0), .int (nI q0)]) ++ List.replicate (6 - (lg_sl ([.ref (a 0), .int (nI p0), .int (nI q0)])).length) Slot.unset).toArray = ls at hl ⊢
  have hl : lv_has ls 6 [(0, .ref (a 0)), (1, .int (nI p0)), (2, .int (nI q0))] := hl
  refine lv_aload_n hx hb dX0_spreadReach_0 rfl (lv_at hl 0 rfl) ?_
  refine va_get (D := G) (ci := 0) (v := .ref (a 16)) (C := RX0) (T := TX0) (N := 19) hx hb hts hfi hown hK hP 0 rfl rfl 16 (by decide) (hts (.fieldLink RX0 54 "PortRules" "reachedFrom" "[J") (by decide +kernel)) (fun _ h9 => h9) rfl dX0_spreadReach_1 ?_
  refine lv_iload_n hx hb dX0_spreadReach_4 rfl (lv_at hl 2 rfl) ?_
  refine rd_lald hx hb hK hP 15 2 rfl rfl (by omega) (by decide) dX0_spreadReach_5 ?_
  refine lv_iload_n hx hb dX0_spreadReach_6 rfl (lv_at hl 2 rfl) ?_
  refine rd_callS (As := [.int (nI q0)]) (rest := [.long (xg V 16 q0)]) ⟨hx, hb, hml, hown, hts⟩ (cx_bit l q0) (va_cwS 1 hts gX0_spreadReach_X0_bit rfl rfl rfl (by decide +kernel) ⟨Nat.le_of_ble_eq_true rfl, Nat.le_of_ble_eq_true rfl⟩) rfl hl.1 rfl (Nat.le_of_ble_eq_true rfl) dX0_spreadReach_7 ⟨Nat.zero_le _, Nat.zero_le _⟩ ?_
  refine lv_lor hx hb dX0_spreadReach_10 ?_
  refine lv_lstore_n (lv' := [(3, .long ((xg V 16 q0) ||| (lbit q0))), (0, .ref (a 0)), (1, .int (nI p0)), (2, .int (nI q0))]) hx hb dX0_spreadReach_11 rfl hl (by decide) rfl (fun ls hl => ?_)
  refine lv_iconst (v := nI 1) hx hb dX0_spreadReach_12 (by decide) ?_
  refine lv_istore (lv' := [(5, .int (nI 1)), (3, .long ((xg V 16 q0) ||| (lbit q0))), (0, .ref (a 0)), (1, .int (nI p0)), (2, .int (nI q0))]) hx hb dX0_spreadReach_13 hl (by decide) rfl (fun ls hl => ?_)
  refine mu_loop (H0 := s.heap) (fun k ls H locs => ∃ (i : Nat) (r : Nat → Int64), 1 ≤ i ∧ i + k = xnq V + 1 ∧ pu_spread p0 (xg V 16 q0 ||| lbit q0) k i r = pu_spread p0 (xg V 16 q0 ||| lbit q0) (xnq V) 1 (xg V 16) ∧ va_P G vwC2 (xW cA a (xnp V, xnq V, xap V, xar V, xf V, va_up (xg V) 16 r)) H ∧ va_D (mu_A (xW cA a V)) (xW cA a (xnp V, xnq V, xap V, xar V, xf V, va_up (xg V) 16 r)) ∧ va_S (mu_A (xW cA a V)) s.heap H locs ∧ lv_has ls 6 [(5, .int (nI i)), (3, .long ((xg V 16 q0 ||| lbit q0))), (0, .ref (a 0)), (1, .int (nI p0)), (2, .int (nI q0))]) ?_ (xnq V) ls s.heap [] ⟨1, xg V 16, by omega, by omega, rfl, by rw [va_up_id]; exact hP, by rw [va_up_id]; exact hD, hS, (lv_sub hl [0, 1, 2, 3, 4] rfl)⟩
  intro k15 ls H locs ⟨i, r, hi, hk, h1, hP, hD, hS, hl⟩ ih15
  refine lv_iload hx hb dX0_spreadReach_15 (lv_at hl 0 rfl) ?_
  refine lv_aload_n hx hb dX0_spreadReach_17 rfl (lv_at hl 2 rfl) ?_
  refine va_get (D := G) (ci := 0) (v := .int (nI (xnq V))) (C := RX0) (T := TX0) (N := 19) hx hb hts hfi hown hK hP 0 rfl rfl 4 (by decide) (hts (.fieldLink RX0 75 "PortRules" "portCount" "I") (by decide +kernel)) (fun _ h9 => h9) rfl dX0_spreadReach_18 ?_
  refine nb_gt (tgt := 61) hx hb dX0_spreadReach_21 (by decide) (by omega) (by omega) (fun c21 => ?_) (fun c21 => ?_)
  · exact mu_vret ((xnp V, xnq V, xap V, xar V, xf V, va_up (xg V) 16 r)) hx hb hr hS hP (by unfold xSpread; rw [← h1, show k15 = 0 by omega]; rfl) (rfl) dX0_spreadReach_61 hlocks
  · obtain ⟨k15, rfl⟩ : ∃ z, k15 = z + 1 := ⟨k15 - 1, by omega⟩
    refine lv_iload hx hb dX0_spreadReach_24 (lv_at hl 0 rfl) ?_
    refine lv_iload_n hx hb dX0_spreadReach_26 rfl (lv_at hl 3 rfl) ?_
    refine nb_eq (tgt := 44) hx hb dX0_spreadReach_27 (by decide) (by omega) (by omega) (fun c27 => ?_) (fun c27 => ?_)
    · refine lv_aload_n hx hb dX0_spreadReach_44 rfl (lv_at hl 2 rfl) ?_
      refine va_get (D := G) (ci := 0) (v := .ref (a 16)) (C := RX0) (T := TX0) (N := 19) hx hb hts hfi hown hK hP 0 rfl rfl 16 (by decide) (hts (.fieldLink RX0 54 "PortRules" "reachedFrom" "[J") (by decide +kernel)) (fun _ h9 => h9) rfl dX0_spreadReach_45 ?_
      refine lv_iload hx hb dX0_spreadReach_48 (lv_at hl 0 rfl) ?_
      refine lv_dup2_11 hx hb dX0_spreadReach_50 rfl rfl ?_
      refine rd_lald hx hb hK hP 15 2 rfl rfl (by omega) (by decide) dX0_spreadReach_51 ?_
      refine lv_lload_n hx hb dX0_spreadReach_52 rfl (lv_at hl 1 rfl) ?_
      refine lv_lor hx hb dX0_spreadReach_53 ?_
      refine mu_last hx hb hK hP hD hS 15 2 rfl rfl (by omega) (by decide) dX0_spreadReach_54 (ws1 := xW cA a (xnp V, xnq V, xap V, xar V, xf V, va_up (xg V) 16 (vp_updL (r) i ((r i) ||| ((xg V 16 q0 ||| lbit q0)))))) rfl (fun H locs hP hD hS => ?_)
      refine lv_iinc (v := nI (i + 1)) (lv' := [(5, .int (nI (i + 1))), (3, .long ((xg V 16 q0 ||| lbit q0))), (0, .ref (a 0)), (1, .int (nI p0)), (2, .int (nI q0))]) hx hb dX0_spreadReach_55 hl (k := 0) rfl (ni_inc _) (by decide) rfl (fun ls hl => ?_)
      refine lv_goto (tgt := 15) hx hb dX0_spreadReach_58 (by decide) ?_
      exact ih15 k15 ls H locs (by omega) ⟨i + 1, vp_updL r i (r i ||| (xg V 16 q0 ||| lbit q0)), by omega, by omega, (pu_spread_t (Or.inl c27)).symm.trans h1, hP, hD, hS, (lv_sub hl [0, 1, 2, 3, 4] rfl)⟩
    · refine lv_aload_n hx hb dX0_spreadReach_30 rfl (lv_at hl 2 rfl) ?_
      refine va_get (D := G) (ci := 0) (v := .ref (a 16)) (C := RX0) (T := TX0) (N := 19) hx hb hts hfi hown hK hP 0 rfl rfl 16 (by decide) (hts (.fieldLink RX0 54 "PortRules" "reachedFrom" "[J") (by decide +kernel)) (fun _ h9 => h9) rfl dX0_spreadReach_31 ?_
      refine lv_iload hx hb dX0_spreadReach_34 (lv_at hl 0 rfl) ?_
      refine rd_lald hx hb hK hP 15 2 rfl rfl (by omega) (by decide) dX0_spreadReach_36 ?_
      refine lv_iload_n hx hb dX0_spreadReach_37 rfl (lv_at hl 3 rfl) ?_
      refine rd_callS (As := [.long (r i), .int (nI p0)]) (rest := []) ⟨hx, hb, hml, hown, hts⟩ (cx_holds l (r i) p0 (by omega)) (va_cwS 2 hts gX0_spreadReach_X0_holds rfl rfl rfl (by decide +kernel) ⟨Nat.le_of_ble_eq_true rfl, Nat.le_of_ble_eq_true rfl⟩) rfl hl.1 rfl (Nat.le_of_ble_eq_true rfl) dX0_spreadReach_38 ⟨Nat.zero_le _, Nat.zero_le _⟩ ?_
      refine bb_eq (tgt := 55) hx hb dX0_spreadReach_41 (by decide) (fun c41 => ?_) (fun c41 => ?_)
      · refine lv_iinc (v := nI (i + 1)) (lv' := [(5, .int (nI (i + 1))), (3, .long ((xg V 16 q0 ||| lbit q0))), (0, .ref (a 0)), (1, .int (nI p0)), (2, .int (nI q0))]) hx hb dX0_spreadReach_55 hl (k := 0) rfl (ni_inc _) (by decide) rfl (fun ls hl => ?_)
        refine lv_goto (tgt := 15) hx hb dX0_spreadReach_58 (by decide) ?_
        exact ih15 k15 ls H locs (by omega) ⟨i + 1, r, by omega, by omega, (pu_spread_f (fun z => z.elim c27 (fun z => by rw [c41] at z; cases z))).symm.trans h1, hP, hD, hS, (lv_sub hl [0, 1, 2, 3, 4] rfl)⟩
      · refine lv_aload_n hx hb dX0_spreadReach_44 rfl (lv_at hl 2 rfl) ?_
        refine va_get (D := G) (ci := 0) (v := .ref (a 16)) (C := RX0) (T := TX0) (N := 19) hx hb hts hfi hown hK hP 0 rfl rfl 16 (by decide) (hts (.fieldLink RX0 54 "PortRules" "reachedFrom" "[J") (by decide +kernel)) (fun _ h9 => h9) rfl dX0_spreadReach_45 ?_
        refine lv_iload hx hb dX0_spreadReach_48 (lv_at hl 0 rfl) ?_
        refine lv_dup2_11 hx hb dX0_spreadReach_50 rfl rfl ?_
        refine rd_lald hx hb hK hP 15 2 rfl rfl (by omega) (by decide) dX0_spreadReach_51 ?_
        refine lv_lload_n hx hb dX0_spreadReach_52 rfl (lv_at hl 1 rfl) ?_
        refine lv_lor hx hb dX0_spreadReach_53 ?_
        refine mu_last hx hb hK hP hD hS 15 2 rfl rfl (by omega) (by decide) dX0_spreadReach_54 (ws1 := xW cA a (xnp V, xnq V, xap V, xar V, xf V, va_up (xg V) 16 (vp_updL (r) i ((r i) ||| ((xg V 16 q0 ||| lbit q0)))))) rfl (fun H locs hP hD hS => ?_)
        refine lv_iinc (v := nI (i + 1)) (lv' := [(5, .int (nI (i + 1))), (3, .long ((xg V 16 q0 ||| lbit q0))), (0, .ref (a 0)), (1, .int (nI p0)), (2, .int (nI q0))]) hx hb dX0_spreadReach_55 hl (k := 0) rfl (ni_inc _) (by decide) rfl (fun ls hl => ?_)
        refine lv_goto (tgt := 15) hx hb dX0_spreadReach_58 (by decide) ?_
        exact ih15 k15 ls H locs (by omega) ⟨i + 1, vp_updL r i (r i ||| (xg V 16 q0 ||| lbit q0)), by omega, by omega, (pu_spread_t (Or.inr c41)).symm.trans h1, hP, hD, hS, (lv_sub hl [0, 1, 2, 3, 4] rfl)⟩
set_option maxHeartbeats 4000000 in
set_option maxRecDepth 100000 in
theorem cx_unit (l : Launch) (G : va_G) (cA : Nat → ClassId) (a : Nat → Nat) (V : XV) (x u0 : Int32) (y z : Int64) (h60 : xnq V ≤ 60) : Met l yX0_unit wsX0_unit { frames := 1, cells := 0, slots := 0, locals := 21 } (mu_Pc G vwC2 (tT cA) (xW cA a V) [.ref (a 0), .int x, .int u0, .long y, .long z]) (mu_Q G vwC2 (xW cA a V) (fun _ => some (.int ((xUnit V x u0 y z).1))) (fun u9 : XV => u9 = (xUnit V x u0 y z).2) (fun u9 => xW cA a u9)) 0 0 (mu_A (xW cA a V)) := by
  refine Met.ofW (cc := cX0_unit) (maxL := 7) (ret := some .int) (by decide) rfl ?_
  intro p e s m args below meth c s₁ B hml hv
  obtain ⟨rfl, hP, hK, hD0⟩ := hv
  have hx := B.exec
  have hb := B.bytes
  have hr := B.returns
  have hts := atoms_spec (ws := wsX0_unit) B.pre
  have hown : s.vm.findClass RX0 = some m.cls := findClass_of_methodNamed B.named
  have hlocks := B.notSynchronized
  have hD := mu_own hD0
  have hS : va_S (mu_A (xW cA a V)) s.heap s.heap [] := va_S.rf
  have hfi : ∀ w ∈ u_ws RX0 TX0 19, w ∈ wsX0_unit := by decide +kernel
  have hl := lv_entry ([.ref (a 0), .int x, .int u0, .long y, .long z]) (n := 7) (Nat.le_of_ble_eq_true rfl)
  rw [lg_entry_eq]
  generalize (lg_sl ([.ref (a 0), .int x, .int u0, .long y, .long z]) ++ List.replicate (7 - (lg_sl ([.ref (a 0), .int x, .int u0, .long y, .long z])).length) Slot.unset).toArray = ls at hl ⊢
  have hl : lv_has ls 7 [(0, .ref (a 0)), (1, .int x), (2, .int u0), (3, .long y), (5, .long z)] := hl
  refine lv_aload_n hx hb dX0_unit_0 rfl (lv_at hl 0 rfl) ?_
  refine lv_iload_n hx hb dX0_unit_1 rfl (lv_at hl 1 rfl) ?_
  refine rd_callV (As := [.int x]) (rest := []) (b := a 0) (q0 := 0) (ci := 0) ⟨hx, hb, hml, hown, hts⟩ (cx_isPort l G cA a V x h60) (cwV 1 hts gX0_unit_X0_isPort rfl rfl rfl (by decide +kernel) ⟨Nat.le_of_ble_eq_true rfl, Nat.le_of_ble_eq_true rfl⟩) hK hP rfl rfl rfl rfl hl.1 rfl (Nat.le_of_ble_eq_true rfl) dX0_unit_2 ⟨Nat.zero_le _, Nat.zero_le _⟩ ?_
  refine bb_ne (tgt := 10) hx hb dX0_unit_5 (by decide) (fun c5 => ?_) (fun c5 => ?_)
  · obtain ⟨p0, hp01, hp02, rfl⟩ := inB_nI (by omega) c5
    refine lv_iload_n hx hb dX0_unit_10 rfl (lv_at hl 2 rfl) ?_
    refine bz_lt (a := u0.toInt) (tgt := 35) hx hb dX0_unit_11 (by decide) rfl (fun c11 => ?_) (fun c11 => ?_)
    · refine lv_bipush (v := -2) hx hb dX0_unit_35 (by decide) ?_
      have hE : xUnit V (nI p0) u0 y z = (-2, V) := by unfold xUnit; rw [if_pos c5, if_neg (fun h => by have h0 := inB_of h.1; omega)]; try rfl
      exact mu_iret (V) hx hb hr hS hP (by rw [hE]) (by rw [hE]) dX0_unit_37 hlocks
    · refine lv_iload_n hx hb dX0_unit_14 rfl (lv_at hl 2 rfl) ?_
      refine lv_bipush (v := 20) hx hb dX0_unit_15 (by decide) ?_
      refine bi_gt (a := u0.toInt) (b := 20) (tgt := 35) hx hb dX0_unit_17 (by decide) rfl (by decide) (fun c17 => ?_) (fun c17 => ?_)
      · refine lv_bipush (v := -2) hx hb dX0_unit_35 (by decide) ?_
        have hE : xUnit V (nI p0) u0 y z = (-2, V) := by unfold xUnit; rw [if_pos c5, if_neg (fun h => by have h0 := inB_of h.1; omega)]; try rfl
        exact mu_iret (V) hx hb hr hS hP (by rw [hE]) (by rw [hE]) dX0_unit_37 hlocks
      · refine lv_lload_n hx hb dX0_unit_20 rfl (lv_at hl 3 rfl) ?_
        refine rd_callS (As := [.long y]) (rest := []) ⟨hx, hb, hml, hown, hts⟩ (cx_isScaling l y) (va_cwS 1 hts gX0_unit_X0_isScaling rfl rfl rfl (by decide +kernel) ⟨Nat.le_of_ble_eq_true rfl, Nat.le_of_ble_eq_true rfl⟩) rfl hl.1 rfl (Nat.le_of_ble_eq_true rfl) dX0_unit_21 ⟨Nat.zero_le _, Nat.zero_le _⟩ ?_
        refine bb_eq (tgt := 35) hx hb dX0_unit_24 (by decide) (fun c24 => ?_) (fun c24 => ?_)
        · refine lv_bipush (v := -2) hx hb dX0_unit_35 (by decide) ?_
          have hE : xUnit V (nI p0) u0 y z = (-2, V) := by unfold xUnit; rw [if_pos c5, if_neg (fun h => by rw [c24] at h; exact absurd h.2.1 (by decide))]; try rfl
          exact mu_iret (V) hx hb hr hS hP (by rw [hE]) (by rw [hE]) dX0_unit_37 hlocks
        · refine lv_lload hx hb dX0_unit_27 (lv_at hl 4 rfl) ?_
          refine rd_callS (As := [.long z]) (rest := []) ⟨hx, hb, hml, hown, hts⟩ (cx_isScaling l z) (va_cwS 1 hts gX0_unit_X0_isScaling rfl rfl rfl (by decide +kernel) ⟨Nat.le_of_ble_eq_true rfl, Nat.le_of_ble_eq_true rfl⟩) rfl hl.1 rfl (Nat.le_of_ble_eq_true rfl) dX0_unit_29 ⟨Nat.zero_le _, Nat.zero_le _⟩ ?_
          refine bb_ne (tgt := 38) hx hb dX0_unit_32 (by decide) (fun c32 => ?_) (fun c32 => ?_)
          · refine lv_aload_n hx hb dX0_unit_38 rfl (lv_at hl 0 rfl) ?_
            refine va_get (D := G) (ci := 0) (v := .ref (a 8)) (C := RX0) (T := TX0) (N := 19) hx hb hts hfi hown hK hP 0 rfl rfl 8 (by decide) (hts (.fieldLink RX0 29 "PortRules" "unitOf" "[I") (by decide +kernel)) (fun _ h9 => h9) rfl dX0_unit_39 ?_
            refine lv_iload_n hx hb dX0_unit_42 rfl (lv_at hl 1 rfl) ?_
            refine lv_iload_n hx hb dX0_unit_43 rfl (lv_at hl 2 rfl) ?_
            refine mu_iast hx hb hK hP hD hS 7 0 rfl rfl (by omega) (by decide) dX0_unit_44 (ws1 := xW cA a (xnp V, xnq V, xap V, xar V, va_up (xf V) 8 (upd (xf V 8) p0 u0), xg V)) rfl (fun H locs hP hD hS => ?_)
            refine lv_aload_n hx hb dX0_unit_45 rfl (lv_at hl 0 rfl) ?_
            refine va_get (D := G) (ci := 0) (v := .ref (a 9)) (C := RX0) (T := TX0) (N := 19) hx hb hts hfi hown hK hP 0 rfl rfl 9 (by decide) (hts (.fieldLink RX0 32 "PortRules" "upOf" "[J") (by decide +kernel)) (fun _ h9 => h9) rfl dX0_unit_46 ?_
            refine lv_iload_n hx hb dX0_unit_49 rfl (lv_at hl 1 rfl) ?_
            refine lv_lload_n hx hb dX0_unit_50 rfl (lv_at hl 3 rfl) ?_
            refine mu_last hx hb hK hP hD hS 8 2 rfl rfl (by omega) (by decide) dX0_unit_51 (ws1 := xW cA a (xnp V, xnq V, xap V, xar V, va_up (xf V) 8 (upd (xf V 8) p0 u0), va_up (xg V) 9 (vp_updL (xg V 9) p0 y))) rfl (fun H locs hP hD hS => ?_)
            refine lv_aload_n hx hb dX0_unit_52 rfl (lv_at hl 0 rfl) ?_
            refine va_get (D := G) (ci := 0) (v := .ref (a 10)) (C := RX0) (T := TX0) (N := 19) hx hb hts hfi hown hK hP 0 rfl rfl 10 (by decide) (hts (.fieldLink RX0 36 "PortRules" "downOf" "[J") (by decide +kernel)) (fun _ h9 => h9) rfl dX0_unit_53 ?_
            refine lv_iload_n hx hb dX0_unit_56 rfl (lv_at hl 1 rfl) ?_
            refine lv_lload hx hb dX0_unit_57 (lv_at hl 4 rfl) ?_
            refine mu_last hx hb hK hP hD hS 9 2 rfl rfl (by omega) (by decide) dX0_unit_59 (ws1 := xW cA a (xnp V, xnq V, xap V, xar V, va_up (xf V) 8 (upd (xf V 8) p0 u0), va_up (va_up (xg V) 9 (vp_updL (xg V 9) p0 y)) 10 (vp_updL (xg V 10) p0 z))) rfl (fun H locs hP hD hS => ?_)
            refine lv_iconst (v := 1) hx hb dX0_unit_60 (by decide) ?_
            have hE : xUnit V (nI p0) u0 y z = (1, (xnp V, xnq V, xap V, xar V, va_up (xf V) 8 (upd (xf V 8) p0 u0), va_up (va_up (xg V) 9 (vp_updL (xg V 9) p0 y)) 10 (vp_updL (xg V 10) p0 z))) := by unfold xUnit; rw [if_pos c5, if_pos ⟨inB_t c11 c17, c24, c32⟩, nI_clamp (by omega)]; try rfl
            exact mu_iret ((xnp V, xnq V, xap V, xar V, va_up (xf V) 8 (upd (xf V 8) p0 u0), va_up (va_up (xg V) 9 (vp_updL (xg V 9) p0 y)) 10 (vp_updL (xg V 10) p0 z))) hx hb hr hS hP (by rw [hE]) (by rw [hE]) dX0_unit_61 hlocks
          · refine lv_bipush (v := -2) hx hb dX0_unit_35 (by decide) ?_
            have hE : xUnit V (nI p0) u0 y z = (-2, V) := by unfold xUnit; rw [if_pos c5, if_neg (fun h => by rw [c32] at h; exact absurd h.2.2 (by decide))]; try rfl
            exact mu_iret (V) hx hb hr hS hP (by rw [hE]) (by rw [hE]) dX0_unit_37 hlocks
  · refine lv_iconst (v := -1) hx hb dX0_unit_8 (by decide) ?_
    have hE : xUnit V x u0 y z = (-1, V) := by unfold xUnit; rw [if_neg (by rw [c5]; decide)]; try rfl
    exact mu_iret (V) hx hb hr hS hP (by rw [hE]) (by rw [hE]) dX0_unit_9 hlocks
set_option maxHeartbeats 4000000 in
set_option maxRecDepth 100000 in
theorem cx_manager (l : Launch) (G : va_G) (cA : Nat → ClassId) (a : Nat → Nat) (V : XV) (k0 x : Int32) (h30 : xnp V ≤ 30) : Met l yX0_manager wsX0_manager { frames := 1, cells := 0, slots := 0, locals := 21 } (mu_Pc G vwC2 (tT cA) (xW cA a V) [.ref (a 0), .int k0, .int x]) (mu_Q G vwC2 (xW cA a V) (fun _ => some (.int ((xMan V k0 x).1))) (fun u9 : XV => u9 = (xMan V k0 x).2) (fun u9 => xW cA a u9)) 0 0 (mu_A (xW cA a V)) := by
  refine Met.ofW (cc := cX0_manager) (maxL := 3) (ret := some .int) (by decide) rfl ?_
  intro p e s m args below meth c s₁ B hml hv
  obtain ⟨rfl, hP, hK, hD0⟩ := hv
  have hx := B.exec
  have hb := B.bytes
  have hr := B.returns
  have hts := atoms_spec (ws := wsX0_manager) B.pre
  have hown : s.vm.findClass RX0 = some m.cls := findClass_of_methodNamed B.named
  have hlocks := B.notSynchronized
  have hD := mu_own hD0
  have hS : va_S (mu_A (xW cA a V)) s.heap s.heap [] := va_S.rf
  have hfi : ∀ w ∈ u_ws RX0 TX0 19, w ∈ wsX0_manager := by decide +kernel
  have hl := lv_entry ([.ref (a 0), .int k0, .int x]) (n := 3) (Nat.le_of_ble_eq_true rfl)
  rw [lg_entry_eq]
  generalize (lg_sl ([.ref (a 0), .int k0, .int x]) ++ List.replicate (3 - (lg_sl ([.ref (a 0), .int k0, .int x])).length) Slot.unset).toArray = ls at hl ⊢
  have hl : lv_has ls 3 [(0, .ref (a 0)), (1, .int k0), (2, .int x)] := hl
  refine lv_aload_n hx hb dX0_manager_0 rfl (lv_at hl 0 rfl) ?_
  refine lv_iload_n hx hb dX0_manager_1 rfl (lv_at hl 2 rfl) ?_
  refine rd_callV (As := [.int x]) (rest := []) (b := a 0) (q0 := 0) (ci := 0) ⟨hx, hb, hml, hown, hts⟩ (cx_isPart l G cA a V x h30) (cwV 1 hts gX0_manager_X0_isPart rfl rfl rfl (by decide +kernel) ⟨Nat.le_of_ble_eq_true rfl, Nat.le_of_ble_eq_true rfl⟩) hK hP rfl rfl rfl rfl hl.1 rfl (Nat.le_of_ble_eq_true rfl) dX0_manager_2 ⟨Nat.zero_le _, Nat.zero_le _⟩ ?_
  refine bb_ne (tgt := 10) hx hb dX0_manager_5 (by decide) (fun c5 => ?_) (fun c5 => ?_)
  · obtain ⟨p0, hp01, hp02, rfl⟩ := inB_nI (by omega) c5
    refine lv_iload_n hx hb dX0_manager_10 rfl (lv_at hl 1 rfl) ?_
    refine bz_lt (a := k0.toInt) (tgt := 20) hx hb dX0_manager_11 (by decide) rfl (fun c11 => ?_) (fun c11 => ?_)
    · refine lv_bipush (v := -2) hx hb dX0_manager_20 (by decide) ?_
      have hE : xMan V k0 (nI p0) = (-2, V) := by unfold xMan; rw [if_pos c5, if_neg (by rw [inB_lo c11]; decide)]; try rfl
      exact mu_iret (V) hx hb hr hS hP (by rw [hE]) (by rw [hE]) dX0_manager_22 hlocks
    · refine lv_iload_n hx hb dX0_manager_14 rfl (lv_at hl 1 rfl) ?_
      refine lv_bipush (v := 10) hx hb dX0_manager_15 (by decide) ?_
      refine bi_lt (a := k0.toInt) (b := 10) (tgt := 23) hx hb dX0_manager_17 (by decide) rfl (by decide) (fun c17 => ?_) (fun c17 => ?_)
      · obtain ⟨k1, hk1, rfl⟩ := ni_pos c11
        rw [nI_toInt hk1] at c17
        refine lv_aload_n hx hb dX0_manager_23 rfl (lv_at hl 0 rfl) ?_
        refine va_get (D := G) (ci := 0) (v := .ref (a 3)) (C := RX0) (T := TX0) (N := 19) hx hb hts hfi hown hK hP 0 rfl rfl 3 (by decide) (hts (.fieldLink RX0 17 "PortRules" "managerOf" "[I") (by decide +kernel)) (fun _ h9 => h9) rfl dX0_manager_24 ?_
        refine lv_iload_n hx hb dX0_manager_27 rfl (lv_at hl 1 rfl) ?_
        refine rd_iald hx hb hK hP 3 0 rfl rfl (by omega) (by decide) dX0_manager_28 ?_
        refine lv_if_eq (tgt := 44) hx hb dX0_manager_29 (by decide) (fun c29 => ?_) (fun c29 => ?_)
        · refine lv_aload_n hx hb dX0_manager_44 rfl (lv_at hl 0 rfl) ?_
          refine va_get (D := G) (ci := 0) (v := .ref (a 3)) (C := RX0) (T := TX0) (N := 19) hx hb hts hfi hown hK hP 0 rfl rfl 3 (by decide) (hts (.fieldLink RX0 17 "PortRules" "managerOf" "[I") (by decide +kernel)) (fun _ h9 => h9) rfl dX0_manager_45 ?_
          refine lv_iload_n hx hb dX0_manager_48 rfl (lv_at hl 1 rfl) ?_
          refine lv_iload_n hx hb dX0_manager_49 rfl (lv_at hl 2 rfl) ?_
          refine mu_iast hx hb hK hP hD hS 3 0 rfl rfl (by omega) (by decide) dX0_manager_50 (ws1 := xW cA a (xnp V, xnq V, xap V, xar V, va_up (xf V) 3 (upd (xf V 3) k1 (nI p0)), xg V)) rfl (fun H locs hP hD hS => ?_)
          refine lv_iconst (v := 1) hx hb dX0_manager_51 (by decide) ?_
          have hE : xMan V (nI k1) (nI p0) = (1, (xnp V, xnq V, xap V, xar V, va_up (xf V) 3 (upd (xf V 3) k1 (nI p0)), xg V)) := by unfold xMan; rw [if_pos c5, if_pos (inB_t c11 (by rw [nI_toInt (by omega)]; omega)), nI_clamp (by omega), if_pos (Or.inl c29)]; try rfl
          exact mu_iret ((xnp V, xnq V, xap V, xar V, va_up (xf V) 3 (upd (xf V 3) k1 (nI p0)), xg V)) hx hb hr hS hP (by rw [hE]) (by rw [hE]) dX0_manager_52 hlocks
        · refine lv_aload_n hx hb dX0_manager_32 rfl (lv_at hl 0 rfl) ?_
          refine va_get (D := G) (ci := 0) (v := .ref (a 3)) (C := RX0) (T := TX0) (N := 19) hx hb hts hfi hown hK hP 0 rfl rfl 3 (by decide) (hts (.fieldLink RX0 17 "PortRules" "managerOf" "[I") (by decide +kernel)) (fun _ h9 => h9) rfl dX0_manager_33 ?_
          refine lv_iload_n hx hb dX0_manager_36 rfl (lv_at hl 1 rfl) ?_
          refine rd_iald hx hb hK hP 3 0 rfl rfl (by omega) (by decide) dX0_manager_37 ?_
          refine lv_iload_n hx hb dX0_manager_38 rfl (lv_at hl 2 rfl) ?_
          refine lv_icmp_eq (tgt := 44) hx hb dX0_manager_39 (by decide) (fun c39 => ?_) (fun c39 => ?_)
          · refine lv_aload_n hx hb dX0_manager_44 rfl (lv_at hl 0 rfl) ?_
            refine va_get (D := G) (ci := 0) (v := .ref (a 3)) (C := RX0) (T := TX0) (N := 19) hx hb hts hfi hown hK hP 0 rfl rfl 3 (by decide) (hts (.fieldLink RX0 17 "PortRules" "managerOf" "[I") (by decide +kernel)) (fun _ h9 => h9) rfl dX0_manager_45 ?_
            refine lv_iload_n hx hb dX0_manager_48 rfl (lv_at hl 1 rfl) ?_
            refine lv_iload_n hx hb dX0_manager_49 rfl (lv_at hl 2 rfl) ?_
            refine mu_iast hx hb hK hP hD hS 3 0 rfl rfl (by omega) (by decide) dX0_manager_50 (ws1 := xW cA a (xnp V, xnq V, xap V, xar V, va_up (xf V) 3 (upd (xf V 3) k1 (nI p0)), xg V)) rfl (fun H locs hP hD hS => ?_)
            refine lv_iconst (v := 1) hx hb dX0_manager_51 (by decide) ?_
            have hE : xMan V (nI k1) (nI p0) = (1, (xnp V, xnq V, xap V, xar V, va_up (xf V) 3 (upd (xf V 3) k1 (nI p0)), xg V)) := by unfold xMan; rw [if_pos c5, if_pos (inB_t c11 (by rw [nI_toInt (by omega)]; omega)), nI_clamp (by omega), if_pos (Or.inr c39)]; try rfl
            exact mu_iret ((xnp V, xnq V, xap V, xar V, va_up (xf V) 3 (upd (xf V 3) k1 (nI p0)), xg V)) hx hb hr hS hP (by rw [hE]) (by rw [hE]) dX0_manager_52 hlocks
          · refine lv_iconst (v := 0) hx hb dX0_manager_42 (by decide) ?_
            have hE : xMan V (nI k1) (nI p0) = (0, V) := by unfold xMan; rw [if_pos c5, if_pos (inB_t c11 (by rw [nI_toInt (by omega)]; omega)), nI_clamp (by omega), if_neg (fun h => h.elim c29 c39)]; try rfl
            exact mu_iret (V) hx hb hr hS hP (by rw [hE]) (by rw [hE]) dX0_manager_43 hlocks
      · refine lv_bipush (v := -2) hx hb dX0_manager_20 (by decide) ?_
        have hE : xMan V k0 (nI p0) = (-2, V) := by unfold xMan; rw [if_pos c5, if_neg (by rw [inB_hi (by omega)]; decide)]; try rfl
        exact mu_iret (V) hx hb hr hS hP (by rw [hE]) (by rw [hE]) dX0_manager_22 hlocks
  · refine lv_iconst (v := -1) hx hb dX0_manager_8 (by decide) ?_
    have hE : xMan V k0 x = (-1, V) := by unfold xMan; rw [if_neg (by rw [c5]; decide)]; try rfl
    exact mu_iret (V) hx hb hr hS hP (by rw [hE]) (by rw [hE]) dX0_manager_9 hlocks
set_option maxHeartbeats 4000000 in
set_option maxRecDepth 100000 in
theorem cx_fallback (l : Launch) (G : va_G) (cA : Nat → ClassId) (a : Nat → Nat) (V : XV) (x v0 : Int32) (h60 : xnq V ≤ 60) : Met l yX0_fallback wsX0_fallback { frames := 1, cells := 0, slots := 0, locals := 21 } (mu_Pc G vwC2 (tT cA) (xW cA a V) [.ref (a 0), .int x, .int v0]) (mu_Q G vwC2 (xW cA a V) (fun _ => some (.int ((xFall V x v0).1))) (fun u9 : XV => u9 = (xFall V x v0).2) (fun u9 => xW cA a u9)) 0 0 (mu_A (xW cA a V)) := by
  refine Met.ofW (cc := cX0_fallback) (maxL := 4) (ret := some .int) (by decide) rfl ?_
  intro p e s m args below meth c s₁ B hml hv
  obtain ⟨rfl, hP, hK, hD0⟩ := hv
  have hx := B.exec
  have hb := B.bytes
  have hr := B.returns
  have hts := atoms_spec (ws := wsX0_fallback) B.pre
  have hown : s.vm.findClass RX0 = some m.cls := findClass_of_methodNamed B.named
  have hlocks := B.notSynchronized
  have hD := mu_own hD0
  have hS : va_S (mu_A (xW cA a V)) s.heap s.heap [] := va_S.rf
  have hfi : ∀ w ∈ u_ws RX0 TX0 19, w ∈ wsX0_fallback := by decide +kernel
  have hl := lv_entry ([.ref (a 0), .int x, .int v0]) (n := 4) (Nat.le_of_ble_eq_true rfl)
  rw [lg_entry_eq]
  generalize (lg_sl ([.ref (a 0), .int x, .int v0]) ++ List.replicate (4 - (lg_sl ([.ref (a 0), .int x, .int v0])).length) Slot.unset).toArray = ls at hl ⊢
  have hl : lv_has ls 4 [(0, .ref (a 0)), (1, .int x), (2, .int v0)] := hl
  refine lv_aload_n hx hb dX0_fallback_0 rfl (lv_at hl 0 rfl) ?_
  refine lv_iload_n hx hb dX0_fallback_1 rfl (lv_at hl 1 rfl) ?_
  refine rd_callV (As := [.int x]) (rest := []) (b := a 0) (q0 := 0) (ci := 0) ⟨hx, hb, hml, hown, hts⟩ (cx_isPort l G cA a V x h60) (cwV 1 hts gX0_fallback_X0_isPort rfl rfl rfl (by decide +kernel) ⟨Nat.le_of_ble_eq_true rfl, Nat.le_of_ble_eq_true rfl⟩) hK hP rfl rfl rfl rfl hl.1 rfl (Nat.le_of_ble_eq_true rfl) dX0_fallback_2 ⟨Nat.zero_le _, Nat.zero_le _⟩ ?_
  refine bb_ne (tgt := 10) hx hb dX0_fallback_5 (by decide) (fun c5 => ?_) (fun c5 => ?_)
  · obtain ⟨p0, hp01, hp02, rfl⟩ := inB_nI (by omega) c5
    refine lv_aload_n hx hb dX0_fallback_10 rfl (lv_at hl 0 rfl) ?_
    refine va_get (D := G) (ci := 0) (v := .ref (a 7)) (C := RX0) (T := TX0) (N := 19) hx hb hts hfi hown hK hP 0 rfl rfl 7 (by decide) (hts (.fieldLink RX0 26 "PortRules" "isProvided" "[Z") (by decide +kernel)) (fun _ h9 => h9) rfl dX0_fallback_11 ?_
    refine lv_iload_n hx hb dX0_fallback_14 rfl (lv_at hl 1 rfl) ?_
    refine rd_zald hx hb hK hP 6 1 rfl rfl (by omega) (by decide) dX0_fallback_15 ?_
    refine lv_if_eq (tgt := 22) hx hb dX0_fallback_16 (by decide) (fun c16 => ?_) (fun c16 => ?_)
    · refine lv_aload_n hx hb dX0_fallback_22 rfl (lv_at hl 0 rfl) ?_
      refine va_get (D := G) (ci := 0) (v := .ref (a 13)) (C := RX0) (T := TX0) (N := 19) hx hb hts hfi hown hK hP 0 rfl rfl 13 (by decide) (hts (.fieldLink RX0 45 "PortRules" "fallbackOf" "[I") (by decide +kernel)) (fun _ h9 => h9) rfl dX0_fallback_23 ?_
      refine lv_iload_n hx hb dX0_fallback_26 rfl (lv_at hl 1 rfl) ?_
      refine rd_iald hx hb hK hP 12 0 rfl rfl (by omega) (by decide) dX0_fallback_27 ?_
      refine lv_istore_n (lv' := [(3, .int (xf V 13 p0)), (0, .ref (a 0)), (1, .int (nI p0)), (2, .int v0)]) hx hb dX0_fallback_28 rfl hl (by decide) rfl (fun ls hl => ?_)
      refine lv_aload_n hx hb dX0_fallback_29 rfl (lv_at hl 1 rfl) ?_
      refine va_get (D := G) (ci := 0) (v := .ref (a 12)) (C := RX0) (T := TX0) (N := 19) hx hb hts hfi hown hK hP 0 rfl rfl 12 (by decide) (hts (.fieldLink RX0 42 "PortRules" "hasFallback" "[Z") (by decide +kernel)) (fun _ h9 => h9) rfl dX0_fallback_30 ?_
      refine lv_iload_n hx hb dX0_fallback_33 rfl (lv_at hl 2 rfl) ?_
      refine lv_iconst (v := 1) hx hb dX0_fallback_34 (by decide) ?_
      refine mu_zast hx hb hK hP hD hS 11 1 rfl rfl (by omega) (by decide) rfl dX0_fallback_35 (ws1 := xW cA a (xnp V, xnq V, xap V, xar V, va_up (xf V) 12 (upd (xf V 12) p0 1), xg V)) rfl (fun H locs hP hD hS => ?_)
      refine lv_aload_n hx hb dX0_fallback_36 rfl (lv_at hl 1 rfl) ?_
      refine va_get (D := G) (ci := 0) (v := .ref (a 13)) (C := RX0) (T := TX0) (N := 19) hx hb hts hfi hown hK hP 0 rfl rfl 13 (by decide) (hts (.fieldLink RX0 45 "PortRules" "fallbackOf" "[I") (by decide +kernel)) (fun _ h9 => h9) rfl dX0_fallback_37 ?_
      refine lv_iload_n hx hb dX0_fallback_40 rfl (lv_at hl 2 rfl) ?_
      refine lv_iload_n hx hb dX0_fallback_41 rfl (lv_at hl 3 rfl) ?_
      refine mu_iast hx hb hK hP hD hS 12 0 rfl rfl (by omega) (by decide) dX0_fallback_42 (ws1 := xW cA a (xnp V, xnq V, xap V, xar V, va_up (va_up (xf V) 12 (upd (xf V 12) p0 1)) 13 (upd (xf V 13) p0 v0), xg V)) rfl (fun H locs hP hD hS => ?_)
      refine lv_iload_n hx hb dX0_fallback_43 rfl (lv_at hl 0 rfl) ?_
      have hE : xFall V (nI p0) v0 = (xf V 13 p0, (xnp V, xnq V, xap V, xar V, va_up (va_up (xf V) 12 (upd (xf V 12) p0 1)) 13 (upd (xf V 13) p0 v0), xg V)) := by unfold xFall; rw [if_pos c5, nI_clamp (by omega), if_pos c16]; try rfl
      exact mu_iret ((xnp V, xnq V, xap V, xar V, va_up (va_up (xf V) 12 (upd (xf V 12) p0 1)) 13 (upd (xf V 13) p0 v0), xg V)) hx hb hr hS hP (by rw [hE]) (by rw [hE]) dX0_fallback_44 hlocks
    · refine lv_bipush (v := -3) hx hb dX0_fallback_19 (by decide) ?_
      have hE : xFall V (nI p0) v0 = (-3, V) := by unfold xFall; rw [if_pos c5, nI_clamp (by omega), if_neg c16]; try rfl
      exact mu_iret (V) hx hb hr hS hP (by rw [hE]) (by rw [hE]) dX0_fallback_21 hlocks
  · refine lv_iconst (v := -1) hx hb dX0_fallback_8 (by decide) ?_
    have hE : xFall V x v0 = (-1, V) := by unfold xFall; rw [if_neg (by rw [c5]; decide)]; try rfl
    exact mu_iret (V) hx hb hr hS hP (by rw [hE]) (by rw [hE]) dX0_fallback_9 hlocks
set_option maxHeartbeats 4000000 in
set_option maxRecDepth 100000 in
theorem cx_queue (l : Launch) (G : va_G) (cA : Nat → ClassId) (a : Nat → Nat) (V : XV) (x n0 : Int32) (h60 : xnq V ≤ 60) : Met l yX0_queue wsX0_queue { frames := 1, cells := 0, slots := 0, locals := 21 } (mu_Pc G vwC2 (tT cA) (xW cA a V) [.ref (a 0), .int x, .int n0]) (mu_Q G vwC2 (xW cA a V) (fun _ => some (.int ((xQue V x n0).1))) (fun u9 : XV => u9 = (xQue V x n0).2) (fun u9 => xW cA a u9)) 0 0 (mu_A (xW cA a V)) := by
  refine Met.ofW (cc := cX0_queue) (maxL := 3) (ret := some .int) (by decide) rfl ?_
  intro p e s m args below meth c s₁ B hml hv
  obtain ⟨rfl, hP, hK, hD0⟩ := hv
  have hx := B.exec
  have hb := B.bytes
  have hr := B.returns
  have hts := atoms_spec (ws := wsX0_queue) B.pre
  have hown : s.vm.findClass RX0 = some m.cls := findClass_of_methodNamed B.named
  have hlocks := B.notSynchronized
  have hD := mu_own hD0
  have hS : va_S (mu_A (xW cA a V)) s.heap s.heap [] := va_S.rf
  have hfi : ∀ w ∈ u_ws RX0 TX0 19, w ∈ wsX0_queue := by decide +kernel
  have hl := lv_entry ([.ref (a 0), .int x, .int n0]) (n := 3) (Nat.le_of_ble_eq_true rfl)
  rw [lg_entry_eq]
  generalize (lg_sl ([.ref (a 0), .int x, .int n0]) ++ List.replicate (3 - (lg_sl ([.ref (a 0), .int x, .int n0])).length) Slot.unset).toArray = ls at hl ⊢
  have hl : lv_has ls 3 [(0, .ref (a 0)), (1, .int x), (2, .int n0)] := hl
  refine lv_aload_n hx hb dX0_queue_0 rfl (lv_at hl 0 rfl) ?_
  refine lv_iload_n hx hb dX0_queue_1 rfl (lv_at hl 1 rfl) ?_
  refine rd_callV (As := [.int x]) (rest := []) (b := a 0) (q0 := 0) (ci := 0) ⟨hx, hb, hml, hown, hts⟩ (cx_isPort l G cA a V x h60) (cwV 1 hts gX0_queue_X0_isPort rfl rfl rfl (by decide +kernel) ⟨Nat.le_of_ble_eq_true rfl, Nat.le_of_ble_eq_true rfl⟩) hK hP rfl rfl rfl rfl hl.1 rfl (Nat.le_of_ble_eq_true rfl) dX0_queue_2 ⟨Nat.zero_le _, Nat.zero_le _⟩ ?_
  refine bb_ne (tgt := 10) hx hb dX0_queue_5 (by decide) (fun c5 => ?_) (fun c5 => ?_)
  · obtain ⟨p0, hp01, hp02, rfl⟩ := inB_nI (by omega) c5
    refine lv_iload_n hx hb dX0_queue_10 rfl (lv_at hl 2 rfl) ?_
    refine lv_iconst (v := 1) hx hb dX0_queue_11 (by decide) ?_
    refine bi_lt (a := n0.toInt) (b := 1) (tgt := 21) hx hb dX0_queue_12 (by decide) rfl (by decide) (fun c12 => ?_) (fun c12 => ?_)
    · refine lv_bipush (v := -2) hx hb dX0_queue_21 (by decide) ?_
      have hE : xQue V (nI p0) n0 = (-2, V) := by unfold xQue; rw [if_pos c5, if_neg (by rw [inB_lo c12]; decide)]; try rfl
      exact mu_iret (V) hx hb hr hS hP (by rw [hE]) (by rw [hE]) dX0_queue_23 hlocks
    · refine lv_iload_n hx hb dX0_queue_15 rfl (lv_at hl 2 rfl) ?_
      refine lv_bipush (v := 100) hx hb dX0_queue_16 (by decide) ?_
      refine bi_le (a := n0.toInt) (b := 100) (tgt := 24) hx hb dX0_queue_18 (by decide) rfl (by decide) (fun c18 => ?_) (fun c18 => ?_)
      · refine lv_aload_n hx hb dX0_queue_24 rfl (lv_at hl 0 rfl) ?_
        refine va_get (D := G) (ci := 0) (v := .ref (a 6)) (C := RX0) (T := TX0) (N := 19) hx hb hts hfi hown hK hP 0 rfl rfl 6 (by decide) (hts (.fieldLink RX0 23 "PortRules" "kindOf" "[I") (by decide +kernel)) (fun _ h9 => h9) rfl dX0_queue_25 ?_
        refine lv_iload_n hx hb dX0_queue_28 rfl (lv_at hl 1 rfl) ?_
        refine rd_iald hx hb hK hP 5 0 rfl rfl (by omega) (by decide) dX0_queue_29 ?_
        refine lv_iconst (v := 1) hx hb dX0_queue_30 (by decide) ?_
        refine lv_icmp_eq (tgt := 37) hx hb dX0_queue_31 (by decide) (fun c31 => ?_) (fun c31 => ?_)
        · refine lv_aload_n hx hb dX0_queue_37 rfl (lv_at hl 0 rfl) ?_
          refine va_get (D := G) (ci := 0) (v := .ref (a 14)) (C := RX0) (T := TX0) (N := 19) hx hb hts hfi hown hK hP 0 rfl rfl 14 (by decide) (hts (.fieldLink RX0 48 "PortRules" "queueOf" "[I") (by decide +kernel)) (fun _ h9 => h9) rfl dX0_queue_38 ?_
          refine lv_iload_n hx hb dX0_queue_41 rfl (lv_at hl 1 rfl) ?_
          refine lv_iload_n hx hb dX0_queue_42 rfl (lv_at hl 2 rfl) ?_
          refine mu_iast hx hb hK hP hD hS 13 0 rfl rfl (by omega) (by decide) dX0_queue_43 (ws1 := xW cA a (xnp V, xnq V, xap V, xar V, va_up (xf V) 14 (upd (xf V 14) p0 n0), xg V)) rfl (fun H locs hP hD hS => ?_)
          refine lv_iconst (v := 1) hx hb dX0_queue_44 (by decide) ?_
          have hE : xQue V (nI p0) n0 = (1, (xnp V, xnq V, xap V, xar V, va_up (xf V) 14 (upd (xf V 14) p0 n0), xg V)) := by unfold xQue; rw [if_pos c5, if_pos (inB_t c12 c18), nI_clamp (by omega), if_pos c31]; try rfl
          exact mu_iret ((xnp V, xnq V, xap V, xar V, va_up (xf V) 14 (upd (xf V 14) p0 n0), xg V)) hx hb hr hS hP (by rw [hE]) (by rw [hE]) dX0_queue_45 hlocks
        · refine lv_bipush (v := -3) hx hb dX0_queue_34 (by decide) ?_
          have hE : xQue V (nI p0) n0 = (-3, V) := by unfold xQue; rw [if_pos c5, if_pos (inB_t c12 c18), nI_clamp (by omega), if_neg c31]; try rfl
          exact mu_iret (V) hx hb hr hS hP (by rw [hE]) (by rw [hE]) dX0_queue_36 hlocks
      · refine lv_bipush (v := -2) hx hb dX0_queue_21 (by decide) ?_
        have hE : xQue V (nI p0) n0 = (-2, V) := by unfold xQue; rw [if_pos c5, if_neg (by rw [inB_hi c18]; decide)]; try rfl
        exact mu_iret (V) hx hb hr hS hP (by rw [hE]) (by rw [hE]) dX0_queue_23 hlocks
  · refine lv_iconst (v := -1) hx hb dX0_queue_8 (by decide) ?_
    have hE : xQue V x n0 = (-1, V) := by unfold xQue; rw [if_neg (by rw [c5]; decide)]; try rfl
    exact mu_iret (V) hx hb hr hS hP (by rw [hE]) (by rw [hE]) dX0_queue_9 hlocks
set_option maxHeartbeats 4000000 in
set_option maxRecDepth 100000 in
theorem cx_version (l : Launch) (G : va_G) (cA : Nat → ClassId) (a : Nat → Nat) (V : XV) (x v0 : Int32) (h60 : xnq V ≤ 60) : Met l yX0_version wsX0_version { frames := 1, cells := 0, slots := 0, locals := 21 } (mu_Pc G vwC2 (tT cA) (xW cA a V) [.ref (a 0), .int x, .int v0]) (mu_Q G vwC2 (xW cA a V) (fun _ => some (.int ((xVer V x v0).1))) (fun u9 : XV => u9 = (xVer V x v0).2) (fun u9 => xW cA a u9)) 0 0 (mu_A (xW cA a V)) := by
  refine Met.ofW (cc := cX0_version) (maxL := 3) (ret := some .int) (by decide) rfl ?_
  intro p e s m args below meth c s₁ B hml hv
  obtain ⟨rfl, hP, hK, hD0⟩ := hv
  have hx := B.exec
  have hb := B.bytes
  have hr := B.returns
  have hts := atoms_spec (ws := wsX0_version) B.pre
  have hown : s.vm.findClass RX0 = some m.cls := findClass_of_methodNamed B.named
  have hlocks := B.notSynchronized
  have hD := mu_own hD0
  have hS : va_S (mu_A (xW cA a V)) s.heap s.heap [] := va_S.rf
  have hfi : ∀ w ∈ u_ws RX0 TX0 19, w ∈ wsX0_version := by decide +kernel
  have hl := lv_entry ([.ref (a 0), .int x, .int v0]) (n := 3) (Nat.le_of_ble_eq_true rfl)
  rw [lg_entry_eq]
  generalize (lg_sl ([.ref (a 0), .int x, .int v0]) ++ List.replicate (3 - (lg_sl ([.ref (a 0), .int x, .int v0])).length) Slot.unset).toArray = ls at hl ⊢
  have hl : lv_has ls 3 [(0, .ref (a 0)), (1, .int x), (2, .int v0)] := hl
  refine lv_aload_n hx hb dX0_version_0 rfl (lv_at hl 0 rfl) ?_
  refine lv_iload_n hx hb dX0_version_1 rfl (lv_at hl 1 rfl) ?_
  refine rd_callV (As := [.int x]) (rest := []) (b := a 0) (q0 := 0) (ci := 0) ⟨hx, hb, hml, hown, hts⟩ (cx_isPort l G cA a V x h60) (cwV 1 hts gX0_version_X0_isPort rfl rfl rfl (by decide +kernel) ⟨Nat.le_of_ble_eq_true rfl, Nat.le_of_ble_eq_true rfl⟩) hK hP rfl rfl rfl rfl hl.1 rfl (Nat.le_of_ble_eq_true rfl) dX0_version_2 ⟨Nat.zero_le _, Nat.zero_le _⟩ ?_
  refine bb_ne (tgt := 10) hx hb dX0_version_5 (by decide) (fun c5 => ?_) (fun c5 => ?_)
  · obtain ⟨p0, hp01, hp02, rfl⟩ := inB_nI (by omega) c5
    refine lv_iload_n hx hb dX0_version_10 rfl (lv_at hl 2 rfl) ?_
    refine bz_lt (a := v0.toInt) (tgt := 21) hx hb dX0_version_11 (by decide) rfl (fun c11 => ?_) (fun c11 => ?_)
    · refine lv_bipush (v := -2) hx hb dX0_version_21 (by decide) ?_
      have hE : xVer V (nI p0) v0 = (-2, V) := by unfold xVer; rw [if_pos c5, if_neg (by rw [inB_lo c11]; decide)]; try rfl
      exact mu_iret (V) hx hb hr hS hP (by rw [hE]) (by rw [hE]) dX0_version_23 hlocks
    · refine lv_iload_n hx hb dX0_version_14 rfl (lv_at hl 2 rfl) ?_
      refine lv_sipush (v := 9999) hx hb dX0_version_15 (by decide) ?_
      refine bi_le (a := v0.toInt) (b := 9999) (tgt := 24) hx hb dX0_version_18 (by decide) rfl (by decide) (fun c18 => ?_) (fun c18 => ?_)
      · refine lv_aload_n hx hb dX0_version_24 rfl (lv_at hl 0 rfl) ?_
        refine va_get (D := G) (ci := 0) (v := .ref (a 11)) (C := RX0) (T := TX0) (N := 19) hx hb hts hfi hown hK hP 0 rfl rfl 11 (by decide) (hts (.fieldLink RX0 39 "PortRules" "versionOf" "[I") (by decide +kernel)) (fun _ h9 => h9) rfl dX0_version_25 ?_
        refine lv_iload_n hx hb dX0_version_28 rfl (lv_at hl 1 rfl) ?_
        refine lv_iload_n hx hb dX0_version_29 rfl (lv_at hl 2 rfl) ?_
        refine mu_iast hx hb hK hP hD hS 10 0 rfl rfl (by omega) (by decide) dX0_version_30 (ws1 := xW cA a (xnp V, xnq V, xap V, xar V, va_up (xf V) 11 (upd (xf V 11) p0 v0), xg V)) rfl (fun H locs hP hD hS => ?_)
        refine lv_iconst (v := 1) hx hb dX0_version_31 (by decide) ?_
        have hE : xVer V (nI p0) v0 = (1, (xnp V, xnq V, xap V, xar V, va_up (xf V) 11 (upd (xf V 11) p0 v0), xg V)) := by unfold xVer; rw [if_pos c5, if_pos (inB_t c11 c18), nI_clamp (by omega)]; try rfl
        exact mu_iret ((xnp V, xnq V, xap V, xar V, va_up (xf V) 11 (upd (xf V 11) p0 v0), xg V)) hx hb hr hS hP (by rw [hE]) (by rw [hE]) dX0_version_32 hlocks
      · refine lv_bipush (v := -2) hx hb dX0_version_21 (by decide) ?_
        have hE : xVer V (nI p0) v0 = (-2, V) := by unfold xVer; rw [if_pos c5, if_neg (by rw [inB_hi c18]; decide)]; try rfl
        exact mu_iret (V) hx hb hr hS hP (by rw [hE]) (by rw [hE]) dX0_version_23 hlocks
  · refine lv_iconst (v := -1) hx hb dX0_version_8 (by decide) ?_
    have hE : xVer V x v0 = (-1, V) := by unfold xVer; rw [if_neg (by rw [c5]; decide)]; try rfl
    exact mu_iret (V) hx hb hr hS hP (by rw [hE]) (by rw [hE]) dX0_version_9 hlocks
set_option maxHeartbeats 4000000 in
set_option maxRecDepth 100000 in
theorem cx_connect (l : Launch) (G : va_G) (cA : Nat → ClassId) (a : Nat → Nat) (V : XV) (x y : Int32) (hok : xOK V) : Met l yX0_connect wsX0_connect { frames := 3, cells := 0, slots := 0, locals := 67 } (mu_Pc G vwC2 (tT cA) (xW cA a V) [.ref (a 0), .int x, .int y]) (mu_Q G vwC2 (xW cA a V) (fun _ => some (.int ((xConn V x y).1))) (fun u9 : XV => u9 = (xConn V x y).2) (fun u9 => xW cA a u9)) 0 0 (mu_A (xW cA a V)) := by
  refine Met.ofW (cc := cX0_connect) (maxL := 3) (ret := some .int) (by decide) rfl ?_
  intro p e s m args below meth c s₁ B hml hv
  obtain ⟨rfl, hP, hK, hD0⟩ := hv
  have hx := B.exec
  have hb := B.bytes
  have hr := B.returns
  have hts := atoms_spec (ws := wsX0_connect) B.pre
  have hown : s.vm.findClass RX0 = some m.cls := findClass_of_methodNamed B.named
  have hlocks := B.notSynchronized
  have hD := mu_own hD0
  have hS : va_S (mu_A (xW cA a V)) s.heap s.heap [] := va_S.rf
  have hfi : ∀ w ∈ u_ws RX0 TX0 19, w ∈ wsX0_connect := by decide +kernel
  have hl := lv_entry ([.ref (a 0), .int x, .int y]) (n := 3) (Nat.le_of_ble_eq_true rfl)
  rw [lg_entry_eq]
  generalize (lg_sl ([.ref (a 0), .int x, .int y]) ++ List.replicate (3 - (lg_sl ([.ref (a 0), .int x, .int y])).length) Slot.unset).toArray = ls at hl ⊢
  have hl : lv_has ls 3 [(0, .ref (a 0)), (1, .int x), (2, .int y)] := hl
  have h60 : xnq V ≤ 60 := hok.2.1
  have h30 : xnp V ≤ 30 := hok.1
  refine lv_aload_n hx hb dX0_connect_0 rfl (lv_at hl 0 rfl) ?_
  refine lv_iload_n hx hb dX0_connect_1 rfl (lv_at hl 1 rfl) ?_
  refine rd_callV (As := [.int x]) (rest := []) (b := a 0) (q0 := 0) (ci := 0) ⟨hx, hb, hml, hown, hts⟩ (cx_isPort l G cA a V x h60) (cwV 1 hts gX0_connect_X0_isPort rfl rfl rfl (by decide +kernel) ⟨Nat.le_of_ble_eq_true rfl, Nat.le_of_ble_eq_true rfl⟩) hK hP rfl rfl rfl rfl hl.1 rfl (Nat.le_of_ble_eq_true rfl) dX0_connect_2 ⟨Nat.zero_le _, Nat.zero_le _⟩ ?_
  refine bb_eq (tgt := 16) hx hb dX0_connect_5 (by decide) (fun c5 => ?_) (fun c5 => ?_)
  · refine lv_iconst (v := -1) hx hb dX0_connect_16 (by decide) ?_
    have hE : xConn V x y = (-1, V) := by unfold xConn; rw [if_neg (fun h => by rw [c5] at h; exact absurd h.1 (by decide))]; try rfl
    exact mu_iret (V) hx hb hr hS hP (by rw [hE]) (by rw [hE]) dX0_connect_17 hlocks
  · obtain ⟨p0, hp01, hp02, rfl⟩ := inB_nI (by omega) c5
    refine lv_aload_n hx hb dX0_connect_8 rfl (lv_at hl 0 rfl) ?_
    refine lv_iload_n hx hb dX0_connect_9 rfl (lv_at hl 2 rfl) ?_
    refine rd_callV (As := [.int y]) (rest := []) (b := a 0) (q0 := 0) (ci := 0) ⟨hx, hb, hml, hown, hts⟩ (cx_isPort l G cA a V y h60) (cwV 1 hts gX0_connect_X0_isPort rfl rfl rfl (by decide +kernel) ⟨Nat.le_of_ble_eq_true rfl, Nat.le_of_ble_eq_true rfl⟩) hK hP rfl rfl rfl rfl hl.1 rfl (Nat.le_of_ble_eq_true rfl) dX0_connect_10 ⟨Nat.zero_le _, Nat.zero_le _⟩ ?_
    refine bb_ne (tgt := 18) hx hb dX0_connect_13 (by decide) (fun c13 => ?_) (fun c13 => ?_)
    · obtain ⟨q0, hq01, hq02, rfl⟩ := inB_nI (by omega) c13
      obtain ⟨u, hu1, hu2, eu⟩ := hok.2.2.1 p0 hp01 hp02
      obtain ⟨v, hv1, hv2, ev⟩ := hok.2.2.1 q0 hq01 hq02
      refine lv_aload_n hx hb dX0_connect_18 rfl (lv_at hl 0 rfl) ?_
      refine va_get (D := G) (ci := 0) (v := .ref (a 6)) (C := RX0) (T := TX0) (N := 19) hx hb hts hfi hown hK hP 0 rfl rfl 6 (by decide) (hts (.fieldLink RX0 23 "PortRules" "kindOf" "[I") (by decide +kernel)) (fun _ h9 => h9) rfl dX0_connect_19 ?_
      refine lv_iload_n hx hb dX0_connect_22 rfl (lv_at hl 1 rfl) ?_
      refine rd_iald hx hb hK hP 5 0 rfl rfl (by omega) (by decide) dX0_connect_23 ?_
      refine lv_aload_n hx hb dX0_connect_24 rfl (lv_at hl 0 rfl) ?_
      refine va_get (D := G) (ci := 0) (v := .ref (a 6)) (C := RX0) (T := TX0) (N := 19) hx hb hts hfi hown hK hP 0 rfl rfl 6 (by decide) (hts (.fieldLink RX0 23 "PortRules" "kindOf" "[I") (by decide +kernel)) (fun _ h9 => h9) rfl dX0_connect_25 ?_
      refine lv_iload_n hx hb dX0_connect_28 rfl (lv_at hl 2 rfl) ?_
      refine rd_iald hx hb hK hP 5 0 rfl rfl (by omega) (by decide) dX0_connect_29 ?_
      refine lv_icmp_ne (tgt := 42) hx hb dX0_connect_30 (by decide) (fun c30 => ?_) (fun c30 => ?_)
      · refine lv_bipush (v := -2) hx hb dX0_connect_42 (by decide) ?_
        have hE : xConn V (nI p0) (nI q0) = (-2, V) := by unfold xConn; rw [if_pos ⟨c5, c13⟩, nI_clamp (show p0 < 2 ^ 31 by omega), nI_clamp (show q0 < 2 ^ 31 by omega), eu, ev, nI_clamp (show u < 2 ^ 31 by omega), nI_clamp (show v < 2 ^ 31 by omega), if_neg (fun h => c30 h.1)]; try rfl
        exact mu_iret (V) hx hb hr hS hP (by rw [hE]) (by rw [hE]) dX0_connect_44 hlocks
      · refine lv_aload_n hx hb dX0_connect_33 rfl (lv_at hl 0 rfl) ?_
        refine lv_iload_n hx hb dX0_connect_34 rfl (lv_at hl 1 rfl) ?_
        refine lv_iload_n hx hb dX0_connect_35 rfl (lv_at hl 2 rfl) ?_
        refine rd_callV (As := [.int (nI p0), .int (nI q0)]) (rest := []) (b := a 0) (q0 := 0) (ci := 0) ⟨hx, hb, hml, hown, hts⟩ (cx_isWay l G cA a V p0 q0 u v (by omega) (by omega) (by omega) (by omega) eu ev) (cwV 2 hts gX0_connect_X0_isWay rfl rfl rfl (by decide +kernel) ⟨Nat.le_of_ble_eq_true rfl, Nat.le_of_ble_eq_true rfl⟩) hK hP rfl rfl rfl rfl hl.1 rfl (Nat.le_of_ble_eq_true rfl) dX0_connect_36 ⟨Nat.zero_le _, Nat.zero_le _⟩ ?_
        refine bb_ne (tgt := 45) hx hb dX0_connect_39 (by decide) (fun c39 => ?_) (fun c39 => ?_)
        · refine lv_aload_n hx hb dX0_connect_45 rfl (lv_at hl 0 rfl) ?_
          refine va_get (D := G) (ci := 0) (v := .ref (a 15)) (C := RX0) (T := TX0) (N := 19) hx hb hts hfi hown hK hP 0 rfl rfl 15 (by decide) (hts (.fieldLink RX0 51 "PortRules" "connectedTo" "[J") (by decide +kernel)) (fun _ h9 => h9) rfl dX0_connect_46 ?_
          refine lv_iload_n hx hb dX0_connect_49 rfl (lv_at hl 1 rfl) ?_
          refine rd_lald hx hb hK hP 14 2 rfl rfl (by omega) (by decide) dX0_connect_50 ?_
          refine lv_iload_n hx hb dX0_connect_51 rfl (lv_at hl 2 rfl) ?_
          refine rd_callS (As := [.long (xg V 15 p0), .int (nI q0)]) (rest := []) ⟨hx, hb, hml, hown, hts⟩ (cx_holds l (xg V 15 p0) q0 (by omega)) (va_cwS 2 hts gX0_connect_X0_holds rfl rfl rfl (by decide +kernel) ⟨Nat.le_of_ble_eq_true rfl, Nat.le_of_ble_eq_true rfl⟩) rfl hl.1 rfl (Nat.le_of_ble_eq_true rfl) dX0_connect_52 ⟨Nat.zero_le _, Nat.zero_le _⟩ ?_
          refine bb_eq (tgt := 60) hx hb dX0_connect_55 (by decide) (fun c55 => ?_) (fun c55 => ?_)
          · refine lv_aload_n hx hb dX0_connect_60 rfl (lv_at hl 0 rfl) ?_
            refine va_get (D := G) (ci := 0) (v := .ref (a 15)) (C := RX0) (T := TX0) (N := 19) hx hb hts hfi hown hK hP 0 rfl rfl 15 (by decide) (hts (.fieldLink RX0 51 "PortRules" "connectedTo" "[J") (by decide +kernel)) (fun _ h9 => h9) rfl dX0_connect_61 ?_
            refine lv_iload_n hx hb dX0_connect_64 rfl (lv_at hl 1 rfl) ?_
            refine lv_dup2_11 hx hb dX0_connect_65 rfl rfl ?_
            refine rd_lald hx hb hK hP 14 2 rfl rfl (by omega) (by decide) dX0_connect_66 ?_
            refine lv_iload_n hx hb dX0_connect_67 rfl (lv_at hl 2 rfl) ?_
            refine rd_callS (As := [.int (nI q0)]) (rest := [.long (xg V 15 p0), .int (nI p0), .ref (a 15)]) ⟨hx, hb, hml, hown, hts⟩ (cx_bit l q0) (va_cwS 1 hts gX0_connect_X0_bit rfl rfl rfl (by decide +kernel) ⟨Nat.le_of_ble_eq_true rfl, Nat.le_of_ble_eq_true rfl⟩) rfl hl.1 rfl (Nat.le_of_ble_eq_true rfl) dX0_connect_68 ⟨Nat.zero_le _, Nat.zero_le _⟩ ?_
            refine lv_lor hx hb dX0_connect_71 ?_
            refine mu_last hx hb hK hP hD hS 14 2 rfl rfl (by omega) (by decide) dX0_connect_72 (ws1 := xW cA a (xnp V, xnq V, xap V, xar V, xf V, va_up (xg V) 15 (vp_updL (xg V 15) p0 ((xg V 15 p0) ||| (lbit q0))))) rfl (fun H locs hP hD hS => ?_)
            refine lv_aload_n hx hb dX0_connect_73 rfl (lv_at hl 0 rfl) ?_
            refine lv_iload_n hx hb dX0_connect_74 rfl (lv_at hl 1 rfl) ?_
            refine lv_iload_n hx hb dX0_connect_75 rfl (lv_at hl 2 rfl) ?_
            refine mu_callV (As := [.int (nI p0), .int (nI q0)]) (rest := []) (b := a 0) (q0 := 0) (ci := 0) ⟨hx, hb, hml, hown, hts⟩ (cx_spreadReach l G cA a ((xnp V, xnq V, xap V, xar V, xf V, va_up (xg V) 15 (vp_updL (xg V 15) p0 ((xg V 15 p0) ||| (lbit q0))))) p0 q0 h60 (by omega) (by omega)) (cwV 2 hts gX0_connect_X0_spreadReach rfl rfl rfl (by decide +kernel) ⟨Nat.le_of_ble_eq_true rfl, Nat.le_of_ble_eq_true rfl⟩) hK hP hD hS rfl rfl rfl (fun _ _ => rfl) rfl hl.1 rfl (Nat.le_of_ble_eq_true rfl) dX0_connect_76 ⟨Nat.zero_le _, Nat.zero_le _⟩ (fun u9 H locs hu9 hP hD hS => ?_)
            subst hu9
            have hP : va_P G vwC2 (xW cA a (xSpread ((xnp V, xnq V, xap V, xar V, xf V, va_up (xg V) 15 (vp_updL (xg V 15) p0 ((xg V 15 p0) ||| (lbit q0))))) p0 q0)) H := hP
            have hD : va_D (mu_A (xW cA a V)) (xW cA a (xSpread ((xnp V, xnq V, xap V, xar V, xf V, va_up (xg V) 15 (vp_updL (xg V 15) p0 ((xg V 15 p0) ||| (lbit q0))))) p0 q0)) := hD
            refine W.eq (g2 := F0 m 79 ls []) rfl ?_
            refine lv_iconst (v := 1) hx hb dX0_connect_79 (by decide) ?_
            have hE : xConn V (nI p0) (nI q0) = (1, (xSpread ((xnp V, xnq V, xap V, xar V, xf V, va_up (xg V) 15 (vp_updL (xg V 15) p0 ((xg V 15 p0) ||| (lbit q0))))) p0 q0)) := by unfold xConn; rw [if_pos ⟨c5, c13⟩, nI_clamp (show p0 < 2 ^ 31 by omega), nI_clamp (show q0 < 2 ^ 31 by omega), eu, ev, nI_clamp (show u < 2 ^ 31 by omega), nI_clamp (show v < 2 ^ 31 by omega), if_pos ⟨c30, c39⟩, if_neg (by rw [c55]; decide)]; try rfl
            exact mu_iret ((xSpread ((xnp V, xnq V, xap V, xar V, xf V, va_up (xg V) 15 (vp_updL (xg V 15) p0 ((xg V 15 p0) ||| (lbit q0))))) p0 q0)) hx hb hr hS hP (by rw [hE]) (by rw [hE]) dX0_connect_80 hlocks
          · refine lv_iconst (v := 0) hx hb dX0_connect_58 (by decide) ?_
            have hE : xConn V (nI p0) (nI q0) = (0, V) := by unfold xConn; rw [if_pos ⟨c5, c13⟩, nI_clamp (show p0 < 2 ^ 31 by omega), nI_clamp (show q0 < 2 ^ 31 by omega), eu, ev, nI_clamp (show u < 2 ^ 31 by omega), nI_clamp (show v < 2 ^ 31 by omega), if_pos ⟨c30, c39⟩, if_pos c55]; try rfl
            exact mu_iret (V) hx hb hr hS hP (by rw [hE]) (by rw [hE]) dX0_connect_59 hlocks
        · refine lv_bipush (v := -2) hx hb dX0_connect_42 (by decide) ?_
          have hE : xConn V (nI p0) (nI q0) = (-2, V) := by unfold xConn; rw [if_pos ⟨c5, c13⟩, nI_clamp (show p0 < 2 ^ 31 by omega), nI_clamp (show q0 < 2 ^ 31 by omega), eu, ev, nI_clamp (show u < 2 ^ 31 by omega), nI_clamp (show v < 2 ^ 31 by omega), if_neg (fun h => by rw [c39] at h; exact absurd h.2 (by decide))]; try rfl
          exact mu_iret (V) hx hb hr hS hP (by rw [hE]) (by rw [hE]) dX0_connect_44 hlocks
    · refine lv_iconst (v := -1) hx hb dX0_connect_16 (by decide) ?_
      have hE : xConn V (nI p0) y = (-1, V) := by unfold xConn; rw [if_neg (fun h => by rw [c13] at h; exact absurd h.2 (by decide))]; try rfl
      exact mu_iret (V) hx hb hr hS hP (by rw [hE]) (by rw [hE]) dX0_connect_17 hlocks
set_option maxHeartbeats 4000000 in
set_option maxRecDepth 100000 in
theorem cx_part (l : Launch) (G : va_G) (cA : Nat → ClassId) (a : Nat → Nat) (V : XV) (x : Int32) (h30 : xnp V ≤ 30) (h60 : xnq V ≤ 60) : Met l yX0_part wsX0_part { frames := 2, cells := 0, slots := 0, locals := 42 } (mu_Pc G vwC2 (tT cA) (xW cA a V) [.ref (a 0), .int x]) (mu_Q G vwC2 (xW cA a V) (fun _ => some (.int ((xPart V x).1))) (fun u9 : XV => u9 = (xPart V x).2) (fun u9 => xW cA a u9)) 0 0 (mu_A (xW cA a V)) := by
  refine Met.ofW (cc := cX0_part) (maxL := 2) (ret := some .int) (by decide) rfl ?_
  intro p e s m args below meth c s₁ B hml hv
  obtain ⟨rfl, hP, hK, hD0⟩ := hv
  have hx := B.exec
  have hb := B.bytes
  have hr := B.returns
  have hts := atoms_spec (ws := wsX0_part) B.pre
  have hown : s.vm.findClass RX0 = some m.cls := findClass_of_methodNamed B.named
  have hlocks := B.notSynchronized
  have hD := mu_own hD0
  have hS : va_S (mu_A (xW cA a V)) s.heap s.heap [] := va_S.rf
  have hfi : ∀ w ∈ u_ws RX0 TX0 19, w ∈ wsX0_part := by decide +kernel
  have hl := lv_entry ([.ref (a 0), .int x]) (n := 2) (Nat.le_of_ble_eq_true rfl)
  rw [lg_entry_eq]
  generalize (lg_sl ([.ref (a 0), .int x]) ++ List.replicate (2 - (lg_sl ([.ref (a 0), .int x])).length) Slot.unset).toArray = ls at hl ⊢
  have hl : lv_has ls 2 [(0, .ref (a 0)), (1, .int x)] := hl
  refine lv_iload_n hx hb dX0_part_0 rfl (lv_at hl 1 rfl) ?_
  refine lv_if_eq (tgt := 14) hx hb dX0_part_1 (by decide) (fun c1 => ?_) (fun c1 => ?_)
  · refine lv_aload_n hx hb dX0_part_14 rfl (lv_at hl 0 rfl) ?_
    refine va_get (D := G) (ci := 0) (v := .int (nI (xnp V))) (C := RX0) (T := TX0) (N := 19) hx hb hts hfi hown hK hP 0 rfl rfl 0 (by decide) (hts (.fieldLink RX0 67 "PortRules" "partCount" "I") (by decide +kernel)) (fun _ h9 => h9) rfl dX0_part_15 ?_
    refine lv_bipush (v := nI 30) hx hb dX0_part_18 (by decide) ?_
    refine bi_lt (a := (((xnp V) : Nat) : Int)) (b := ((30 : Nat) : Int)) (tgt := 26) hx hb dX0_part_20 (by decide) (nI_toInt (by omega)) (nI_toInt (by omega)) (fun c20 => ?_) (fun c20 => ?_)
    · refine lv_aload_n hx hb dX0_part_26 rfl (lv_at hl 0 rfl) ?_
      refine lv_dup hx hb dX0_part_27 rfl ?_
      refine va_get (D := G) (ci := 0) (v := .int (nI (xnp V))) (C := RX0) (T := TX0) (N := 19) hx hb hts hfi hown hK hP 0 rfl rfl 0 (by decide) (hts (.fieldLink RX0 67 "PortRules" "partCount" "I") (by decide +kernel)) (fun _ h9 => h9) rfl dX0_part_28 ?_
      refine lv_iconst (v := 1) hx hb dX0_part_31 (by decide) ?_
      refine lv_iadd hx hb dX0_part_32 ?_
      refine rd_topi (y := nI (xnp V + 1)) (nI_1 _) ?_
      refine va_put (D := G) (ci := 0) (v := .int (nI (xnp V + 1))) (ty := .int) (C := RX0) (T := TX0) (N := 19) hx hb hts hfi tyX0 tyX0_ok nmX0 hown hK hP hD hS 0 rfl rfl 0 (by decide) (hts (.fieldLink RX0 67 "PortRules" "partCount" "I") (by decide +kernel)) (fun _ h9 => h9) rfl (by decide +kernel) rfl rfl (Nat.le_of_ble_eq_true rfl) dX0_part_33 (fun H locs hP hD hS => ?_)
      have hP : va_P G vwC2 (xW cA a (xnp V + 1, xnq V, xap V, xar V, xf V, xg V)) H := hP
      have hD : va_D (mu_A (xW cA a V)) (xW cA a (xnp V + 1, xnq V, xap V, xar V, xf V, xg V)) := hD
      refine lv_aload_n hx hb dX0_part_36 rfl (lv_at hl 0 rfl) ?_
      refine va_get (D := G) (ci := 0) (v := .ref (a 1)) (C := RX0) (T := TX0) (N := 19) hx hb hts hfi hown hK hP 0 rfl rfl 1 (by decide) (hts (.fieldLink RX0 9 "PortRules" "compositionOf" "[I") (by decide +kernel)) (fun _ h9 => h9) rfl dX0_part_37 ?_
      refine lv_aload_n hx hb dX0_part_40 rfl (lv_at hl 0 rfl) ?_
      refine va_get (D := G) (ci := 0) (v := .int (nI (xnp V + 1))) (C := RX0) (T := TX0) (N := 19) hx hb hts hfi hown hK hP 0 rfl rfl 0 (by decide) (hts (.fieldLink RX0 67 "PortRules" "partCount" "I") (by decide +kernel)) (fun _ h9 => h9) rfl dX0_part_41 ?_
      refine lv_iload_n hx hb dX0_part_44 rfl (lv_at hl 1 rfl) ?_
      refine mu_iast hx hb hK hP hD hS 1 0 rfl rfl (by omega) (by decide) dX0_part_45 (ws1 := xW cA a (xnp V + 1, xnq V, xap V, xar V, va_up (xf V) 1 (upd (xf V 1) (xnp V + 1) x), xg V)) rfl (fun H locs hP hD hS => ?_)
      refine lv_iload_n hx hb dX0_part_46 rfl (lv_at hl 1 rfl) ?_
      refine lv_if_eq (tgt := 55) hx hb dX0_part_47 (by decide) (fun c47 => ?_) (fun c47 => ?_)
      · refine lv_aload_n hx hb dX0_part_55 rfl (lv_at hl 0 rfl) ?_
        refine va_get (D := G) (ci := 0) (v := .int (nI (xnp V + 1))) (C := RX0) (T := TX0) (N := 19) hx hb hts hfi hown hK hP 0 rfl rfl 0 (by decide) (hts (.fieldLink RX0 67 "PortRules" "partCount" "I") (by decide +kernel)) (fun _ h9 => h9) rfl dX0_part_56 ?_
        have hE : xPart V x = (nI (xnp V + 1), (xnp V + 1, xnq V, xap V, xar V, va_up (xf V) 1 (upd (xf V 1) (xnp V + 1) x), xg V)) := by unfold xPart; rw [if_pos (Or.inl c1), if_neg (by omega), if_pos c1]; try rfl
        exact mu_iret ((xnp V + 1, xnq V, xap V, xar V, va_up (xf V) 1 (upd (xf V 1) (xnp V + 1) x), xg V)) hx hb hr hS hP (by rw [hE]) (by rw [hE]) dX0_part_59 hlocks
      · exact absurd c1 c47
    · refine lv_bipush (v := -4) hx hb dX0_part_23 (by decide) ?_
      have hE : xPart V x = (-4, V) := by unfold xPart; rw [if_pos (Or.inl c1), if_pos (by omega)]; try rfl
      exact mu_iret (V) hx hb hr hS hP (by rw [hE]) (by rw [hE]) dX0_part_25 hlocks
  · refine lv_aload_n hx hb dX0_part_4 rfl (lv_at hl 0 rfl) ?_
    refine lv_iload_n hx hb dX0_part_5 rfl (lv_at hl 1 rfl) ?_
    refine rd_callV (As := [.int x]) (rest := []) (b := a 0) (q0 := 0) (ci := 0) ⟨hx, hb, hml, hown, hts⟩ (cx_isPart l G cA a V x h30) (cwV 1 hts gX0_part_X0_isPart rfl rfl rfl (by decide +kernel) ⟨Nat.le_of_ble_eq_true rfl, Nat.le_of_ble_eq_true rfl⟩) hK hP rfl rfl rfl rfl hl.1 rfl (Nat.le_of_ble_eq_true rfl) dX0_part_6 ⟨Nat.zero_le _, Nat.zero_le _⟩ ?_
    refine bb_ne (tgt := 14) hx hb dX0_part_9 (by decide) (fun c9 => ?_) (fun c9 => ?_)
    · obtain ⟨c0, hc01, hc02, rfl⟩ := inB_nI (by omega) c9
      refine lv_aload_n hx hb dX0_part_14 rfl (lv_at hl 0 rfl) ?_
      refine va_get (D := G) (ci := 0) (v := .int (nI (xnp V))) (C := RX0) (T := TX0) (N := 19) hx hb hts hfi hown hK hP 0 rfl rfl 0 (by decide) (hts (.fieldLink RX0 67 "PortRules" "partCount" "I") (by decide +kernel)) (fun _ h9 => h9) rfl dX0_part_15 ?_
      refine lv_bipush (v := nI 30) hx hb dX0_part_18 (by decide) ?_
      refine bi_lt (a := (((xnp V) : Nat) : Int)) (b := ((30 : Nat) : Int)) (tgt := 26) hx hb dX0_part_20 (by decide) (nI_toInt (by omega)) (nI_toInt (by omega)) (fun c20 => ?_) (fun c20 => ?_)
      · refine lv_aload_n hx hb dX0_part_26 rfl (lv_at hl 0 rfl) ?_
        refine lv_dup hx hb dX0_part_27 rfl ?_
        refine va_get (D := G) (ci := 0) (v := .int (nI (xnp V))) (C := RX0) (T := TX0) (N := 19) hx hb hts hfi hown hK hP 0 rfl rfl 0 (by decide) (hts (.fieldLink RX0 67 "PortRules" "partCount" "I") (by decide +kernel)) (fun _ h9 => h9) rfl dX0_part_28 ?_
        refine lv_iconst (v := 1) hx hb dX0_part_31 (by decide) ?_
        refine lv_iadd hx hb dX0_part_32 ?_
        refine rd_topi (y := nI (xnp V + 1)) (nI_1 _) ?_
        refine va_put (D := G) (ci := 0) (v := .int (nI (xnp V + 1))) (ty := .int) (C := RX0) (T := TX0) (N := 19) hx hb hts hfi tyX0 tyX0_ok nmX0 hown hK hP hD hS 0 rfl rfl 0 (by decide) (hts (.fieldLink RX0 67 "PortRules" "partCount" "I") (by decide +kernel)) (fun _ h9 => h9) rfl (by decide +kernel) rfl rfl (Nat.le_of_ble_eq_true rfl) dX0_part_33 (fun H locs hP hD hS => ?_)
        have hP : va_P G vwC2 (xW cA a (xnp V + 1, xnq V, xap V, xar V, xf V, xg V)) H := hP
        have hD : va_D (mu_A (xW cA a V)) (xW cA a (xnp V + 1, xnq V, xap V, xar V, xf V, xg V)) := hD
        refine lv_aload_n hx hb dX0_part_36 rfl (lv_at hl 0 rfl) ?_
        refine va_get (D := G) (ci := 0) (v := .ref (a 1)) (C := RX0) (T := TX0) (N := 19) hx hb hts hfi hown hK hP 0 rfl rfl 1 (by decide) (hts (.fieldLink RX0 9 "PortRules" "compositionOf" "[I") (by decide +kernel)) (fun _ h9 => h9) rfl dX0_part_37 ?_
        refine lv_aload_n hx hb dX0_part_40 rfl (lv_at hl 0 rfl) ?_
        refine va_get (D := G) (ci := 0) (v := .int (nI (xnp V + 1))) (C := RX0) (T := TX0) (N := 19) hx hb hts hfi hown hK hP 0 rfl rfl 0 (by decide) (hts (.fieldLink RX0 67 "PortRules" "partCount" "I") (by decide +kernel)) (fun _ h9 => h9) rfl dX0_part_41 ?_
        refine lv_iload_n hx hb dX0_part_44 rfl (lv_at hl 1 rfl) ?_
        refine mu_iast hx hb hK hP hD hS 1 0 rfl rfl (by omega) (by decide) dX0_part_45 (ws1 := xW cA a (xnp V + 1, xnq V, xap V, xar V, va_up (xf V) 1 (upd (xf V 1) (xnp V + 1) (nI c0)), xg V)) rfl (fun H locs hP hD hS => ?_)
        refine lv_iload_n hx hb dX0_part_46 rfl (lv_at hl 1 rfl) ?_
        refine bn_eq (tgt := 55) hx hb dX0_part_47 (by decide) (by omega) (fun c47 => ?_) (fun c47 => ?_)
        · exact absurd c47 (by omega)
        · refine lv_aload_n hx hb dX0_part_50 rfl (lv_at hl 0 rfl) ?_
          refine lv_iload_n hx hb dX0_part_51 rfl (lv_at hl 1 rfl) ?_
          refine mu_callV (As := [.int (nI c0)]) (rest := []) (b := a 0) (q0 := 0) (ci := 0) ⟨hx, hb, hml, hown, hts⟩ (cx_endAtomic l G cA a ((xnp V + 1, xnq V, xap V, xar V, va_up (xf V) 1 (upd (xf V 1) (xnp V + 1) (nI c0)), xg V)) c0 h60 (by omega)) (cwV 1 hts gX0_part_X0_endAtomic rfl rfl rfl (by decide +kernel) ⟨Nat.le_of_ble_eq_true rfl, Nat.le_of_ble_eq_true rfl⟩) hK hP hD hS rfl rfl rfl (fun _ _ => rfl) rfl hl.1 rfl (Nat.le_of_ble_eq_true rfl) dX0_part_52 ⟨Nat.zero_le _, Nat.zero_le _⟩ (fun u9 H locs hu9 hP hD hS => ?_)
          subst hu9
          have hP : va_P G vwC2 (xW cA a (xEnd ((xnp V + 1, xnq V, xap V, xar V, va_up (xf V) 1 (upd (xf V 1) (xnp V + 1) (nI c0)), xg V)) c0)) H := hP
          have hD : va_D (mu_A (xW cA a V)) (xW cA a (xEnd ((xnp V + 1, xnq V, xap V, xar V, va_up (xf V) 1 (upd (xf V 1) (xnp V + 1) (nI c0)), xg V)) c0)) := hD
          refine W.eq (g2 := F0 m 55 ls []) rfl ?_
          refine lv_aload_n hx hb dX0_part_55 rfl (lv_at hl 0 rfl) ?_
          refine va_get (D := G) (ci := 0) (v := .int (nI (xnp V + 1))) (C := RX0) (T := TX0) (N := 19) hx hb hts hfi hown hK hP 0 rfl rfl 0 (by decide) (hts (.fieldLink RX0 67 "PortRules" "partCount" "I") (by decide +kernel)) (fun _ h9 => h9) rfl dX0_part_56 ?_
          have hE : xPart V (nI c0) = (nI (xnp V + 1), (xEnd ((xnp V + 1, xnq V, xap V, xar V, va_up (xf V) 1 (upd (xf V 1) (xnp V + 1) (nI c0)), xg V)) c0)) := by unfold xPart; rw [if_pos (Or.inr c9), if_neg (by omega), if_neg c1, nI_clamp (by omega)]; try rfl
          exact mu_iret ((xEnd ((xnp V + 1, xnq V, xap V, xar V, va_up (xf V) 1 (upd (xf V 1) (xnp V + 1) (nI c0)), xg V)) c0)) hx hb hr hS hP (by rw [hE]) (by rw [hE]) dX0_part_59 hlocks
      · refine lv_bipush (v := -4) hx hb dX0_part_23 (by decide) ?_
        have hE : xPart V (nI c0) = (-4, V) := by unfold xPart; rw [if_pos (Or.inr c9), if_pos (by omega)]; try rfl
        exact mu_iret (V) hx hb hr hS hP (by rw [hE]) (by rw [hE]) dX0_part_25 hlocks
    · refine lv_iconst (v := -1) hx hb dX0_part_12 (by decide) ?_
      have hE : xPart V x = (-1, V) := by unfold xPart; rw [if_neg (fun h => h.elim c1 (fun h => by rw [c9] at h; cases h))]; try rfl
      exact mu_iret (V) hx hb hr hS hP (by rw [hE]) (by rw [hE]) dX0_part_13 hlocks
set_option maxHeartbeats 4000000 in
set_option maxRecDepth 100000 in
theorem cx_port (l : Launch) (G : va_G) (cA : Nat → ClassId) (a : Nat → Nat) (V : XV) (x k0 b0 : Int32) (h30 : xnp V ≤ 30) (h60 : xnq V ≤ 60) (hnb : vp_nar .boolean b0 = b0) : Met l yX0_port wsX0_port { frames := 2, cells := 0, slots := 0, locals := 41 } (mu_Pc G vwC2 (tT cA) (xW cA a V) [.ref (a 0), .int x, .int k0, .int b0]) (mu_Q G vwC2 (xW cA a V) (fun _ => some (.int ((xPort V x k0 b0).1))) (fun u9 : XV => u9 = (xPort V x k0 b0).2) (fun u9 => xW cA a u9)) 0 0 (mu_A (xW cA a V)) := by
  refine Met.ofW (cc := cX0_port) (maxL := 4) (ret := some .int) (by decide) rfl ?_
  intro p e s m args below meth c s₁ B hml hv
  obtain ⟨rfl, hP, hK, hD0⟩ := hv
  have hx := B.exec
  have hb := B.bytes
  have hr := B.returns
  have hts := atoms_spec (ws := wsX0_port) B.pre
  have hown : s.vm.findClass RX0 = some m.cls := findClass_of_methodNamed B.named
  have hlocks := B.notSynchronized
  have hD := mu_own hD0
  have hS : va_S (mu_A (xW cA a V)) s.heap s.heap [] := va_S.rf
  have hfi : ∀ w ∈ u_ws RX0 TX0 19, w ∈ wsX0_port := by decide +kernel
  have hl := lv_entry ([.ref (a 0), .int x, .int k0, .int b0]) (n := 4) (Nat.le_of_ble_eq_true rfl)
  rw [lg_entry_eq]
  generalize (lg_sl ([.ref (a 0), .int x, .int k0, .int b0]) ++ List.replicate (4 - (lg_sl ([.ref (a 0), .int x, .int k0, .int b0])).length) Slot.unset).toArray = ls at hl ⊢
  have hl : lv_has ls 4 [(0, .ref (a 0)), (1, .int x), (2, .int k0), (3, .int b0)] := hl
  refine lv_aload_n hx hb dX0_port_0 rfl (lv_at hl 0 rfl) ?_
  refine lv_iload_n hx hb dX0_port_1 rfl (lv_at hl 1 rfl) ?_
  refine rd_callV (As := [.int x]) (rest := []) (b := a 0) (q0 := 0) (ci := 0) ⟨hx, hb, hml, hown, hts⟩ (cx_isPart l G cA a V x h30) (cwV 1 hts gX0_port_X0_isPart rfl rfl rfl (by decide +kernel) ⟨Nat.le_of_ble_eq_true rfl, Nat.le_of_ble_eq_true rfl⟩) hK hP rfl rfl rfl rfl hl.1 rfl (Nat.le_of_ble_eq_true rfl) dX0_port_2 ⟨Nat.zero_le _, Nat.zero_le _⟩ ?_
  refine bb_ne (tgt := 10) hx hb dX0_port_5 (by decide) (fun c5 => ?_) (fun c5 => ?_)
  · obtain ⟨p0, hp01, hp02, rfl⟩ := inB_nI (by omega) c5
    refine lv_iload_n hx hb dX0_port_10 rfl (lv_at hl 2 rfl) ?_
    refine bz_lt (a := k0.toInt) (tgt := 19) hx hb dX0_port_11 (by decide) rfl (fun c11 => ?_) (fun c11 => ?_)
    · refine lv_bipush (v := -2) hx hb dX0_port_19 (by decide) ?_
      have hE : xPort V (nI p0) k0 b0 = (-2, V) := by unfold xPort; rw [if_pos c5, if_neg (by rw [inB_lo c11]; decide)]; try rfl
      exact mu_iret (V) hx hb hr hS hP (by rw [hE]) (by rw [hE]) dX0_port_21 hlocks
    · refine lv_iload_n hx hb dX0_port_14 rfl (lv_at hl 2 rfl) ?_
      refine lv_iconst (v := 3) hx hb dX0_port_15 (by decide) ?_
      refine bi_le (a := k0.toInt) (b := 3) (tgt := 22) hx hb dX0_port_16 (by decide) rfl (by decide) (fun c16 => ?_) (fun c16 => ?_)
      · refine lv_aload_n hx hb dX0_port_22 rfl (lv_at hl 0 rfl) ?_
        refine va_get (D := G) (ci := 0) (v := .int (nI (xnq V))) (C := RX0) (T := TX0) (N := 19) hx hb hts hfi hown hK hP 0 rfl rfl 4 (by decide) (hts (.fieldLink RX0 75 "PortRules" "portCount" "I") (by decide +kernel)) (fun _ h9 => h9) rfl dX0_port_23 ?_
        refine lv_bipush (v := nI 60) hx hb dX0_port_26 (by decide) ?_
        refine bi_lt (a := (((xnq V) : Nat) : Int)) (b := ((60 : Nat) : Int)) (tgt := 34) hx hb dX0_port_28 (by decide) (nI_toInt (by omega)) (nI_toInt (by omega)) (fun c28 => ?_) (fun c28 => ?_)
        · refine lv_aload_n hx hb dX0_port_34 rfl (lv_at hl 0 rfl) ?_
          refine lv_dup hx hb dX0_port_35 rfl ?_
          refine va_get (D := G) (ci := 0) (v := .int (nI (xnq V))) (C := RX0) (T := TX0) (N := 19) hx hb hts hfi hown hK hP 0 rfl rfl 4 (by decide) (hts (.fieldLink RX0 75 "PortRules" "portCount" "I") (by decide +kernel)) (fun _ h9 => h9) rfl dX0_port_36 ?_
          refine lv_iconst (v := 1) hx hb dX0_port_39 (by decide) ?_
          refine lv_iadd hx hb dX0_port_40 ?_
          refine rd_topi (y := nI (xnq V + 1)) (nI_1 _) ?_
          refine va_put (D := G) (ci := 0) (v := .int (nI (xnq V + 1))) (ty := .int) (C := RX0) (T := TX0) (N := 19) hx hb hts hfi tyX0 tyX0_ok nmX0 hown hK hP hD hS 0 rfl rfl 4 (by decide) (hts (.fieldLink RX0 75 "PortRules" "portCount" "I") (by decide +kernel)) (fun _ h9 => h9) rfl (by decide +kernel) rfl rfl (Nat.le_of_ble_eq_true rfl) dX0_port_41 (fun H locs hP hD hS => ?_)
          have hP : va_P G vwC2 (xW cA a (xnp V, xnq V + 1, xap V, xar V, xf V, xg V)) H := hP
          have hD : va_D (mu_A (xW cA a V)) (xW cA a (xnp V, xnq V + 1, xap V, xar V, xf V, xg V)) := hD
          refine lv_aload_n hx hb dX0_port_44 rfl (lv_at hl 0 rfl) ?_
          refine va_get (D := G) (ci := 0) (v := .ref (a 5)) (C := RX0) (T := TX0) (N := 19) hx hb hts hfi hown hK hP 0 rfl rfl 5 (by decide) (hts (.fieldLink RX0 20 "PortRules" "partOf" "[I") (by decide +kernel)) (fun _ h9 => h9) rfl dX0_port_45 ?_
          refine lv_aload_n hx hb dX0_port_48 rfl (lv_at hl 0 rfl) ?_
          refine va_get (D := G) (ci := 0) (v := .int (nI (xnq V + 1))) (C := RX0) (T := TX0) (N := 19) hx hb hts hfi hown hK hP 0 rfl rfl 4 (by decide) (hts (.fieldLink RX0 75 "PortRules" "portCount" "I") (by decide +kernel)) (fun _ h9 => h9) rfl dX0_port_49 ?_
          refine lv_iload_n hx hb dX0_port_52 rfl (lv_at hl 1 rfl) ?_
          refine mu_iast hx hb hK hP hD hS 4 0 rfl rfl (by omega) (by decide) dX0_port_53 (ws1 := xW cA a (xnp V, xnq V + 1, xap V, xar V, va_up (xf V) 5 (upd (xf V 5) (xnq V + 1) (nI p0)), xg V)) rfl (fun H locs hP hD hS => ?_)
          refine lv_aload_n hx hb dX0_port_54 rfl (lv_at hl 0 rfl) ?_
          refine va_get (D := G) (ci := 0) (v := .ref (a 6)) (C := RX0) (T := TX0) (N := 19) hx hb hts hfi hown hK hP 0 rfl rfl 6 (by decide) (hts (.fieldLink RX0 23 "PortRules" "kindOf" "[I") (by decide +kernel)) (fun _ h9 => h9) rfl dX0_port_55 ?_
          refine lv_aload_n hx hb dX0_port_58 rfl (lv_at hl 0 rfl) ?_
          refine va_get (D := G) (ci := 0) (v := .int (nI (xnq V + 1))) (C := RX0) (T := TX0) (N := 19) hx hb hts hfi hown hK hP 0 rfl rfl 4 (by decide) (hts (.fieldLink RX0 75 "PortRules" "portCount" "I") (by decide +kernel)) (fun _ h9 => h9) rfl dX0_port_59 ?_
          refine lv_iload_n hx hb dX0_port_62 rfl (lv_at hl 2 rfl) ?_
          refine mu_iast hx hb hK hP hD hS 5 0 rfl rfl (by omega) (by decide) dX0_port_63 (ws1 := xW cA a (xnp V, xnq V + 1, xap V, xar V, va_up (va_up (xf V) 5 (upd (xf V 5) (xnq V + 1) (nI p0))) 6 (upd (xf V 6) (xnq V + 1) k0), xg V)) rfl (fun H locs hP hD hS => ?_)
          refine lv_aload_n hx hb dX0_port_64 rfl (lv_at hl 0 rfl) ?_
          refine va_get (D := G) (ci := 0) (v := .ref (a 7)) (C := RX0) (T := TX0) (N := 19) hx hb hts hfi hown hK hP 0 rfl rfl 7 (by decide) (hts (.fieldLink RX0 26 "PortRules" "isProvided" "[Z") (by decide +kernel)) (fun _ h9 => h9) rfl dX0_port_65 ?_
          refine lv_aload_n hx hb dX0_port_68 rfl (lv_at hl 0 rfl) ?_
          refine va_get (D := G) (ci := 0) (v := .int (nI (xnq V + 1))) (C := RX0) (T := TX0) (N := 19) hx hb hts hfi hown hK hP 0 rfl rfl 4 (by decide) (hts (.fieldLink RX0 75 "PortRules" "portCount" "I") (by decide +kernel)) (fun _ h9 => h9) rfl dX0_port_69 ?_
          refine lv_iload_n hx hb dX0_port_72 rfl (lv_at hl 3 rfl) ?_
          refine mu_zast hx hb hK hP hD hS 6 1 rfl rfl (by omega) (by decide) hnb dX0_port_73 (ws1 := xW cA a (xnp V, xnq V + 1, xap V, xar V, va_up (va_up (va_up (xf V) 5 (upd (xf V 5) (xnq V + 1) (nI p0))) 6 (upd (xf V 6) (xnq V + 1) k0)) 7 (upd (xf V 7) (xnq V + 1) b0), xg V)) rfl (fun H locs hP hD hS => ?_)
          refine lv_aload_n hx hb dX0_port_74 rfl (lv_at hl 0 rfl) ?_
          refine va_get (D := G) (ci := 0) (v := .ref (a 2)) (C := RX0) (T := TX0) (N := 19) hx hb hts hfi hown hK hP 0 rfl rfl 2 (by decide) (hts (.fieldLink RX0 13 "PortRules" "hasInnerParts" "[Z") (by decide +kernel)) (fun _ h9 => h9) rfl dX0_port_75 ?_
          refine lv_iload_n hx hb dX0_port_78 rfl (lv_at hl 1 rfl) ?_
          refine rd_zald hx hb hK hP 2 1 rfl rfl (by omega) (by decide) dX0_port_79 ?_
          refine lv_if_ne (tgt := 91) hx hb dX0_port_80 (by decide) (fun c80 => ?_) (fun c80 => ?_)
          · refine lv_aload_n hx hb dX0_port_91 rfl (lv_at hl 0 rfl) ?_
            refine va_get (D := G) (ci := 0) (v := .int (nI (xnq V + 1))) (C := RX0) (T := TX0) (N := 19) hx hb hts hfi hown hK hP 0 rfl rfl 4 (by decide) (hts (.fieldLink RX0 75 "PortRules" "portCount" "I") (by decide +kernel)) (fun _ h9 => h9) rfl dX0_port_92 ?_
            have hE : xPort V (nI p0) k0 b0 = (nI (xnq V + 1), (xnp V, xnq V + 1, xap V, xar V, va_up (va_up (va_up (xf V) 5 (upd (xf V 5) (xnq V + 1) (nI p0))) 6 (upd (xf V 6) (xnq V + 1) k0)) 7 (upd (xf V 7) (xnq V + 1) b0), xg V)) := by unfold xPort; rw [if_pos c5, if_pos (inB_t c11 c16), if_neg (by omega), nI_clamp (by omega), if_neg (show ¬ xf V 2 p0 = 0 from c80)]; try rfl
            exact mu_iret ((xnp V, xnq V + 1, xap V, xar V, va_up (va_up (va_up (xf V) 5 (upd (xf V 5) (xnq V + 1) (nI p0))) 6 (upd (xf V 6) (xnq V + 1) k0)) 7 (upd (xf V 7) (xnq V + 1) b0), xg V)) hx hb hr hS hP (by rw [hE]) (by rw [hE]) dX0_port_95 hlocks
          · refine lv_aload_n hx hb dX0_port_83 rfl (lv_at hl 0 rfl) ?_
            refine lv_aload_n hx hb dX0_port_84 rfl (lv_at hl 0 rfl) ?_
            refine va_get (D := G) (ci := 0) (v := .int (nI (xnq V + 1))) (C := RX0) (T := TX0) (N := 19) hx hb hts hfi hown hK hP 0 rfl rfl 4 (by decide) (hts (.fieldLink RX0 75 "PortRules" "portCount" "I") (by decide +kernel)) (fun _ h9 => h9) rfl dX0_port_85 ?_
            refine mu_callV (As := [.int (nI (xnq V + 1))]) (rest := []) (b := a 0) (q0 := 0) (ci := 0) ⟨hx, hb, hml, hown, hts⟩ (cx_addAtomicPort l G cA a ((xnp V, xnq V + 1, xap V, xar V, va_up (va_up (va_up (xf V) 5 (upd (xf V 5) (xnq V + 1) (nI p0))) 6 (upd (xf V 6) (xnq V + 1) k0)) 7 (upd (xf V 7) (xnq V + 1) b0), xg V)) (xnq V + 1) (by omega)) (cwV 1 hts gX0_port_X0_addAtomicPort rfl rfl rfl (by decide +kernel) ⟨Nat.le_of_ble_eq_true rfl, Nat.le_of_ble_eq_true rfl⟩) hK hP hD hS rfl rfl rfl (fun _ _ => rfl) rfl hl.1 rfl (Nat.le_of_ble_eq_true rfl) dX0_port_88 ⟨Nat.zero_le _, Nat.zero_le _⟩ (fun u9 H locs hu9 hP hD hS => ?_)
            subst hu9
            have hP : va_P G vwC2 (xW cA a (xAdd ((xnp V, xnq V + 1, xap V, xar V, va_up (va_up (va_up (xf V) 5 (upd (xf V 5) (xnq V + 1) (nI p0))) 6 (upd (xf V 6) (xnq V + 1) k0)) 7 (upd (xf V 7) (xnq V + 1) b0), xg V)) (xnq V + 1))) H := hP
            have hD : va_D (mu_A (xW cA a V)) (xW cA a (xAdd ((xnp V, xnq V + 1, xap V, xar V, va_up (va_up (va_up (xf V) 5 (upd (xf V 5) (xnq V + 1) (nI p0))) 6 (upd (xf V 6) (xnq V + 1) k0)) 7 (upd (xf V 7) (xnq V + 1) b0), xg V)) (xnq V + 1))) := hD
            refine W.eq (g2 := F0 m 91 ls []) rfl ?_
            refine lv_aload_n hx hb dX0_port_91 rfl (lv_at hl 0 rfl) ?_
            refine va_get (D := G) (ci := 0) (v := .int (nI (xnq V + 1))) (C := RX0) (T := TX0) (N := 19) hx hb hts hfi hown hK hP 0 rfl rfl 4 (by decide) (hts (.fieldLink RX0 75 "PortRules" "portCount" "I") (by decide +kernel)) (fun _ h9 => h9) rfl dX0_port_92 ?_
            have hE : xPort V (nI p0) k0 b0 = (nI (xnq V + 1), (xAdd (xPort1 V (nI p0) k0 b0) (xnq V + 1))) := by unfold xPort; rw [if_pos c5, if_pos (inB_t c11 c16), if_neg (by omega), nI_clamp (by omega), if_pos (show xf V 2 p0 = 0 from c80)]; try rfl
            exact mu_iret ((xAdd (xPort1 V (nI p0) k0 b0) (xnq V + 1))) hx hb hr hS hP (by rw [hE]) (by rw [hE]) dX0_port_95 hlocks
        · refine lv_bipush (v := -4) hx hb dX0_port_31 (by decide) ?_
          have hE : xPort V (nI p0) k0 b0 = (-4, V) := by unfold xPort; rw [if_pos c5, if_pos (inB_t c11 c16), if_pos (by omega)]; try rfl
          exact mu_iret (V) hx hb hr hS hP (by rw [hE]) (by rw [hE]) dX0_port_33 hlocks
      · refine lv_bipush (v := -2) hx hb dX0_port_19 (by decide) ?_
        have hE : xPort V (nI p0) k0 b0 = (-2, V) := by unfold xPort; rw [if_pos c5, if_neg (by rw [inB_hi c16]; decide)]; try rfl
        exact mu_iret (V) hx hb hr hS hP (by rw [hE]) (by rw [hE]) dX0_port_21 hlocks
  · refine lv_iconst (v := -1) hx hb dX0_port_8 (by decide) ?_
    have hE : xPort V x k0 b0 = (-1, V) := by unfold xPort; rw [if_neg (by rw [c5]; decide)]; try rfl
    exact mu_iret (V) hx hb hr hS hP (by rw [hE]) (by rw [hE]) dX0_port_9 hlocks
