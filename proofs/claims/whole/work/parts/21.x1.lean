/-! X: the methods that change nothing -/
set_option maxHeartbeats 4000000 in
set_option maxRecDepth 100000 in
theorem cx_isPart (l : Launch) (G : va_G) (cA : Nat → ClassId) (a : Nat → Nat) (V : XV) (x : Int32) (h30 : xnp V ≤ 30) : Met l yX0_isPart wsX0_isPart { frames := 0, cells := 0, slots := 0, locals := 0 } (rd_Pc G vwC2 (tT cA) (xW cA a V) [.ref (a 0), .int x]) (k2_QcV (.int (z1 (inB x 1 (xnp V))))) 0 0 (fun _ => False) := by
  refine Met.ofW (cc := cX0_isPart) (maxL := 2) (ret := some .boolean) (by decide) rfl ?_
  intro p e s m args below meth c s₁ B hml hv
  obtain ⟨rfl, hP, hK⟩ := hv
  have hx := B.exec
  have hb := B.bytes
  have hr := B.returns
  have hts := atoms_spec (ws := wsX0_isPart) B.pre
  have hown : s.vm.findClass RX0 = some m.cls := findClass_of_methodNamed B.named
  have hlocks := B.notSynchronized
  have hfi : ∀ w ∈ u_ws RX0 TX0 19, w ∈ wsX0_isPart := by decide +kernel
  have hl := lv_entry ([.ref (a 0), .int x]) (n := 2) (Nat.le_of_ble_eq_true rfl)
  rw [lg_entry_eq]
  generalize (lg_sl ([.ref (a 0), .int x]) ++ List.replicate (2 - (lg_sl ([.ref (a 0), .int x])).length) Slot.unset).toArray = ls at hl ⊢
  have hl : lv_has ls 2 [(0, .ref (a 0)), (1, .int x)] := hl
  refine lv_iload_n hx hb dX0_isPart_0 rfl (lv_at hl 1 rfl) ?_
  refine lv_iconst (v := 1) hx hb dX0_isPart_1 (by decide) ?_
  refine bi_lt (a := x.toInt) (b := 1) (tgt := 17) hx hb dX0_isPart_2 (by decide) rfl (by decide) (fun c2 => ?_) (fun c2 => ?_)
  · refine lv_iconst (v := 0) hx hb dX0_isPart_17 (by decide) ?_
    exact rd_zret hx hb hr rfl (z1_f (inB_lo c2)) dX0_isPart_18 hlocks
  · refine lv_iload_n hx hb dX0_isPart_5 rfl (lv_at hl 1 rfl) ?_
    refine lv_aload_n hx hb dX0_isPart_6 rfl (lv_at hl 0 rfl) ?_
    refine va_get (D := G) (ci := 0) (v := .int (nI (xnp V))) (C := RX0) (T := TX0) (N := 19) hx hb hts hfi hown hK hP 0 rfl rfl 0 (by decide) (hts (.fieldLink RX0 67 "PortRules" "partCount" "I") (by decide +kernel)) (fun _ h9 => h9) rfl dX0_isPart_7 ?_
    refine bi_gt (a := x.toInt) (b := (((xnp V) : Nat) : Int)) (tgt := 17) hx hb dX0_isPart_10 (by decide) rfl (nI_toInt (by omega)) (fun c10 => ?_) (fun c10 => ?_)
    · refine lv_iconst (v := 0) hx hb dX0_isPart_17 (by decide) ?_
      exact rd_zret hx hb hr rfl (z1_f (inB_hi c10)) dX0_isPart_18 hlocks
    · refine lv_iconst (v := 1) hx hb dX0_isPart_13 (by decide) ?_
      refine lv_goto (tgt := 18) hx hb dX0_isPart_14 (by decide) ?_
      exact rd_zret hx hb hr rfl (z1_t (inB_t c2 c10)) dX0_isPart_18 hlocks
set_option maxHeartbeats 4000000 in
set_option maxRecDepth 100000 in
theorem cx_isPort (l : Launch) (G : va_G) (cA : Nat → ClassId) (a : Nat → Nat) (V : XV) (x : Int32) (h60 : xnq V ≤ 60) : Met l yX0_isPort wsX0_isPort { frames := 0, cells := 0, slots := 0, locals := 0 } (rd_Pc G vwC2 (tT cA) (xW cA a V) [.ref (a 0), .int x]) (k2_QcV (.int (z1 (inB x 1 (xnq V))))) 0 0 (fun _ => False) := by
  refine Met.ofW (cc := cX0_isPort) (maxL := 2) (ret := some .boolean) (by decide) rfl ?_
  intro p e s m args below meth c s₁ B hml hv
  obtain ⟨rfl, hP, hK⟩ := hv
  have hx := B.exec
  have hb := B.bytes
  have hr := B.returns
  have hts := atoms_spec (ws := wsX0_isPort) B.pre
  have hown : s.vm.findClass RX0 = some m.cls := findClass_of_methodNamed B.named
  have hlocks := B.notSynchronized
  have hfi : ∀ w ∈ u_ws RX0 TX0 19, w ∈ wsX0_isPort := by decide +kernel
  have hl := lv_entry ([.ref (a 0), .int x]) (n := 2) (Nat.le_of_ble_eq_true rfl)
  rw [lg_entry_eq]
  generalize (lg_sl ([.ref (a 0), .int x]) ++ List.replicate (2 - (lg_sl ([.ref (a 0), .int x])).length) Slot.unset).toArray = ls at hl ⊢
  have hl : lv_has ls 2 [(0, .ref (a 0)), (1, .int x)] := hl
  refine lv_iload_n hx hb dX0_isPort_0 rfl (lv_at hl 1 rfl) ?_
  refine lv_iconst (v := 1) hx hb dX0_isPort_1 (by decide) ?_
  refine bi_lt (a := x.toInt) (b := 1) (tgt := 17) hx hb dX0_isPort_2 (by decide) rfl (by decide) (fun c2 => ?_) (fun c2 => ?_)
  · refine lv_iconst (v := 0) hx hb dX0_isPort_17 (by decide) ?_
    exact rd_zret hx hb hr rfl (z1_f (inB_lo c2)) dX0_isPort_18 hlocks
  · refine lv_iload_n hx hb dX0_isPort_5 rfl (lv_at hl 1 rfl) ?_
    refine lv_aload_n hx hb dX0_isPort_6 rfl (lv_at hl 0 rfl) ?_
    refine va_get (D := G) (ci := 0) (v := .int (nI (xnq V))) (C := RX0) (T := TX0) (N := 19) hx hb hts hfi hown hK hP 0 rfl rfl 4 (by decide) (hts (.fieldLink RX0 75 "PortRules" "portCount" "I") (by decide +kernel)) (fun _ h9 => h9) rfl dX0_isPort_7 ?_
    refine bi_gt (a := x.toInt) (b := (((xnq V) : Nat) : Int)) (tgt := 17) hx hb dX0_isPort_10 (by decide) rfl (nI_toInt (by omega)) (fun c10 => ?_) (fun c10 => ?_)
    · refine lv_iconst (v := 0) hx hb dX0_isPort_17 (by decide) ?_
      exact rd_zret hx hb hr rfl (z1_f (inB_hi c10)) dX0_isPort_18 hlocks
    · refine lv_iconst (v := 1) hx hb dX0_isPort_13 (by decide) ?_
      refine lv_goto (tgt := 18) hx hb dX0_isPort_14 (by decide) ?_
      exact rd_zret hx hb hr rfl (z1_t (inB_t c2 c10)) dX0_isPort_18 hlocks
set_option maxHeartbeats 4000000 in
set_option maxRecDepth 100000 in
theorem cx_isScaling (l : Launch) (x : Int64)  : Met l yX0_isScaling wsX0_isScaling { frames := 0, cells := 0, slots := 0, locals := 0 } (fun v _ => v = ([.long x] : List Value).toArray) (k2_QcV (.int (z1 (inL x 1 1000)))) 0 0 (fun _ => False) := by
  refine Met.ofW (cc := cX0_isScaling) (maxL := 2) (ret := some .boolean) (by decide) rfl ?_
  intro p e s m args below meth c s₁ B hml hv
  obtain rfl := hv
  have hx := B.exec
  have hb := B.bytes
  have hr := B.returns
  have hts := atoms_spec (ws := wsX0_isScaling) B.pre
  have hown : s.vm.findClass RX0 = some m.cls := findClass_of_methodNamed B.named
  have hlocks := B.notSynchronized
  have hl := lv_entry ([.long x]) (n := 2) (Nat.le_of_ble_eq_true rfl)
  rw [lg_entry_eq]
  generalize (lg_sl ([.long x]) ++ List.replicate (2 - (lg_sl ([.long x])).length) Slot.unset).toArray = ls at hl ⊢
  have hl : lv_has ls 2 [(0, .long x)] := hl
  refine lv_lload_n hx hb dX0_isScaling_0 rfl (lv_at hl 0 rfl) ?_
  refine lv_lconst (v := 1) hx hb dX0_isScaling_1 (by decide) ?_
  refine bl_lt (tgt := 18) (a := x.toInt) (b := 1) hx hb dX0_isScaling_2 dX0_isScaling_3 (by decide) rfl (by decide) (fun c3 => ?_) (fun c3 => ?_)
  · refine lv_iconst (v := 0) hx hb dX0_isScaling_18 (by decide) ?_
    exact rd_zret hx hb hr rfl (z1_f (inL_lo c3)) dX0_isScaling_19 hlocks
  · refine lv_lload_n hx hb dX0_isScaling_6 rfl (lv_at hl 0 rfl) ?_
    refine lv_ldc2 (v := 1000) hx hb hown (hts (.constantLong RX0 144 1000) (by decide +kernel)) dX0_isScaling_7 ?_
    refine bl_gt (tgt := 18) (a := x.toInt) (b := 1000) hx hb dX0_isScaling_10 dX0_isScaling_11 (by decide) rfl (by decide) (fun c11 => ?_) (fun c11 => ?_)
    · refine lv_iconst (v := 0) hx hb dX0_isScaling_18 (by decide) ?_
      exact rd_zret hx hb hr rfl (z1_f (inL_hi c11)) dX0_isScaling_19 hlocks
    · refine lv_iconst (v := 1) hx hb dX0_isScaling_14 (by decide) ?_
      refine lv_goto (tgt := 19) hx hb dX0_isScaling_15 (by decide) ?_
      exact rd_zret hx hb hr rfl (z1_t (inL_t c3 c11)) dX0_isScaling_19 hlocks
set_option maxHeartbeats 4000000 in
set_option maxRecDepth 100000 in
theorem cx_bit (l : Launch) (p0 : Nat)  : Met l yX0_bit wsX0_bit { frames := 0, cells := 0, slots := 0, locals := 0 } (fun v _ => v = ([.int (nI p0)] : List Value).toArray) (k2_QcV (.long (lbit p0))) 0 0 (fun _ => False) := by
  refine Met.ofW (cc := cX0_bit) (maxL := 1) (ret := some .long) (by decide) rfl ?_
  intro p e s m args below meth c s₁ B hml hv
  obtain rfl := hv
  have hx := B.exec
  have hb := B.bytes
  have hr := B.returns
  have hts := atoms_spec (ws := wsX0_bit) B.pre
  have hown : s.vm.findClass RX0 = some m.cls := findClass_of_methodNamed B.named
  have hlocks := B.notSynchronized
  have hl := lv_entry ([.int (nI p0)]) (n := 1) (Nat.le_of_ble_eq_true rfl)
  rw [lg_entry_eq]
  generalize (lg_sl ([.int (nI p0)]) ++ List.replicate (1 - (lg_sl ([.int (nI p0)])).length) Slot.unset).toArray = ls at hl ⊢
  have hl : lv_has ls 1 [(0, .int (nI p0))] := hl
  refine lv_lconst (v := 1) hx hb dX0_bit_0 (by decide) ?_
  refine lv_iload_n hx hb dX0_bit_1 rfl (lv_at hl 0 rfl) ?_
  refine lv_lshl (v := lbit p0) hx hb dX0_bit_2 (rfl) ?_
  exact rd_lret hx hb hr (rfl) dX0_bit_3 hlocks
set_option maxHeartbeats 4000000 in
set_option maxRecDepth 100000 in
theorem cx_holds (l : Launch) (x : Int64) (p0 : Nat) (hp : p0 < 64) : Met l yX0_holds wsX0_holds { frames := 1, cells := 0, slots := 0, locals := 20 } (fun v _ => v = ([.long x, .int (nI p0)] : List Value).toArray) (k2_QcV (.int (z1 (lb x p0)))) 0 0 (fun _ => False) := by
  refine Met.ofW (cc := cX0_holds) (maxL := 3) (ret := some .boolean) (by decide) rfl ?_
  intro p e s m args below meth c s₁ B hml hv
  obtain rfl := hv
  have hx := B.exec
  have hb := B.bytes
  have hr := B.returns
  have hts := atoms_spec (ws := wsX0_holds) B.pre
  have hown : s.vm.findClass RX0 = some m.cls := findClass_of_methodNamed B.named
  have hlocks := B.notSynchronized
  have hl := lv_entry ([.long x, .int (nI p0)]) (n := 3) (Nat.le_of_ble_eq_true rfl)
  rw [lg_entry_eq]
  generalize (lg_sl ([.long x, .int (nI p0)]) ++ List.replicate (3 - (lg_sl ([.long x, .int (nI p0)])).length) Slot.unset).toArray = ls at hl ⊢
  have hl : lv_has ls 3 [(0, .long x), (2, .int (nI p0))] := hl
  refine lv_lload_n hx hb dX0_holds_0 rfl (lv_at hl 0 rfl) ?_
  refine lv_iload_n hx hb dX0_holds_1 rfl (lv_at hl 1 rfl) ?_
  refine rd_callS (As := [.int (nI p0)]) (rest := [.long x]) ⟨hx, hb, hml, hown, hts⟩ (cx_bit l p0) (va_cwS 1 hts gX0_holds_X0_bit rfl rfl rfl (by decide +kernel) ⟨Nat.le_of_ble_eq_true rfl, Nat.le_of_ble_eq_true rfl⟩) rfl hl.1 rfl (Nat.le_of_ble_eq_true rfl) dX0_holds_2 ⟨Nat.zero_le _, Nat.zero_le _⟩ ?_
  refine lv_land hx hb dX0_holds_5 ?_
  refine lv_lconst (v := 0) hx hb dX0_holds_6 (by decide) ?_
  refine bl_eq (tgt := 15) hx hb dX0_holds_7 dX0_holds_8 (by decide) (fun c8 => ?_) (fun c8 => ?_)
  · refine lv_iconst (v := 0) hx hb dX0_holds_15 (by decide) ?_
    exact rd_zret hx hb hr rfl (z1_f ((lb_hold x hp).mp c8)) dX0_holds_16 hlocks
  · refine lv_iconst (v := 1) hx hb dX0_holds_11 (by decide) ?_
    refine lv_goto (tgt := 16) hx hb dX0_holds_12 (by decide) ?_
    exact rd_zret hx hb hr rfl (z1_t ((lb_holdn x hp).mp c8)) dX0_holds_16 hlocks
set_option maxHeartbeats 4000000 in
set_option maxRecDepth 100000 in
theorem cx_flatFrom (l : Launch) (G : va_G) (cA : Nat → ClassId) (a : Nat → Nat) (V : XV) (p0 : Nat) (hp : p0 ≤ 60) : Met l yX0_flatFrom wsX0_flatFrom { frames := 2, cells := 0, slots := 0, locals := 42 } (rd_Pc G vwC2 (tT cA) (xW cA a V) [.ref (a 0), .int (nI p0)]) (k2_QcV (.long (xFl V p0))) 0 0 (fun _ => False) := by
  refine Met.ofW (cc := cX0_flatFrom) (maxL := 2) (ret := some .long) (by decide) rfl ?_
  intro p e s m args below meth c s₁ B hml hv
  obtain ⟨rfl, hP, hK⟩ := hv
  have hx := B.exec
  have hb := B.bytes
  have hr := B.returns
  have hts := atoms_spec (ws := wsX0_flatFrom) B.pre
  have hown : s.vm.findClass RX0 = some m.cls := findClass_of_methodNamed B.named
  have hlocks := B.notSynchronized
  have hfi : ∀ w ∈ u_ws RX0 TX0 19, w ∈ wsX0_flatFrom := by decide +kernel
  have hl := lv_entry ([.ref (a 0), .int (nI p0)]) (n := 2) (Nat.le_of_ble_eq_true rfl)
  rw [lg_entry_eq]
  generalize (lg_sl ([.ref (a 0), .int (nI p0)]) ++ List.replicate (2 - (lg_sl ([.ref (a 0), .int (nI p0)])).length) Slot.unset).toArray = ls at hl ⊢
  have hl : lv_has ls 2 [(0, .ref (a 0)), (1, .int (nI p0))] := hl
  refine lv_aload_n hx hb dX0_flatFrom_0 rfl (lv_at hl 0 rfl) ?_
  refine va_get (D := G) (ci := 0) (v := .long (xap V)) (C := RX0) (T := TX0) (N := 19) hx hb hts hfi hown hK hP 0 rfl rfl 17 (by decide) (hts (.fieldLink RX0 146 "PortRules" "atomicProvided" "J") (by decide +kernel)) (fun _ h9 => h9) rfl dX0_flatFrom_1 ?_
  refine lv_iload_n hx hb dX0_flatFrom_4 rfl (lv_at hl 1 rfl) ?_
  refine rd_callS (As := [.long (xap V), .int (nI p0)]) (rest := []) ⟨hx, hb, hml, hown, hts⟩ (cx_holds l (xap V) p0 (by omega)) (va_cwS 2 hts gX0_flatFrom_X0_holds rfl rfl rfl (by decide +kernel) ⟨Nat.le_of_ble_eq_true rfl, Nat.le_of_ble_eq_true rfl⟩) rfl hl.1 rfl (Nat.le_of_ble_eq_true rfl) dX0_flatFrom_5 ⟨Nat.zero_le _, Nat.zero_le _⟩ ?_
  refine bb_eq (tgt := 25) hx hb dX0_flatFrom_8 (by decide) (fun c8 => ?_) (fun c8 => ?_)
  · refine lv_lconst (v := 0) hx hb dX0_flatFrom_25 (by decide) ?_
    exact rd_lret hx hb hr ((xFl_f c8).symm) dX0_flatFrom_26 hlocks
  · refine lv_aload_n hx hb dX0_flatFrom_11 rfl (lv_at hl 0 rfl) ?_
    refine va_get (D := G) (ci := 0) (v := .ref (a 16)) (C := RX0) (T := TX0) (N := 19) hx hb hts hfi hown hK hP 0 rfl rfl 16 (by decide) (hts (.fieldLink RX0 54 "PortRules" "reachedFrom" "[J") (by decide +kernel)) (fun _ h9 => h9) rfl dX0_flatFrom_12 ?_
    refine lv_iload_n hx hb dX0_flatFrom_15 rfl (lv_at hl 1 rfl) ?_
    refine rd_lald hx hb hK hP 15 2 rfl rfl (by omega) (by decide) dX0_flatFrom_16 ?_
    refine lv_aload_n hx hb dX0_flatFrom_17 rfl (lv_at hl 0 rfl) ?_
    refine va_get (D := G) (ci := 0) (v := .long (xar V)) (C := RX0) (T := TX0) (N := 19) hx hb hts hfi hown hK hP 0 rfl rfl 18 (by decide) (hts (.fieldLink RX0 134 "PortRules" "atomicRequired" "J") (by decide +kernel)) (fun _ h9 => h9) rfl dX0_flatFrom_18 ?_
    refine lv_land hx hb dX0_flatFrom_21 ?_
    refine lv_goto (tgt := 26) hx hb dX0_flatFrom_22 (by decide) ?_
    exact rd_lret hx hb hr ((xFl_t c8).symm) dX0_flatFrom_26 hlocks
set_option maxHeartbeats 4000000 in
set_option maxRecDepth 100000 in
theorem cx_nthPort (l : Launch) (G : va_G) (cA : Nat → ClassId) (a : Nat → Nat) (V : XV) (x : Int64) (t : Nat) (h60 : xnq V ≤ 60) (ht : t < 2 ^ 31) : Met l yX0_nthPort wsX0_nthPort { frames := 2, cells := 0, slots := 0, locals := 42 } (rd_Pc G vwC2 (tT cA) (xW cA a V) [.ref (a 0), .long x, .int (nI t)]) (k2_QcV (.int (nI (pu_nth (lb x) (xnq V) 1 t)))) 0 0 (fun _ => False) := by
  refine Met.ofW (cc := cX0_nthPort) (maxL := 6) (ret := some .int) (by decide) rfl ?_
  intro p e s m args below meth c s₁ B hml hv
  obtain ⟨rfl, hP, hK⟩ := hv
  have hx := B.exec
  have hb := B.bytes
  have hr := B.returns
  have hts := atoms_spec (ws := wsX0_nthPort) B.pre
  have hown : s.vm.findClass RX0 = some m.cls := findClass_of_methodNamed B.named
  have hlocks := B.notSynchronized
  have hfi : ∀ w ∈ u_ws RX0 TX0 19, w ∈ wsX0_nthPort := by decide +kernel
  have hl := lv_entry ([.ref (a 0), .long x, .int (nI t)]) (n := 6) (Nat.le_of_ble_eq_true rfl)
  rw [lg_entry_eq]
  generalize (lg_sl ([.ref (a 0), .long x, .int (nI t)]) ++ List.replicate (6 - (lg_sl ([.ref (a 0), .long x, .int (nI t)])).length) Slot.unset).toArray = ls at hl ⊢
  have hl : lv_has ls 6 [(0, .ref (a 0)), (1, .long x), (3, .int (nI t))] := hl
  refine lv_iload_n hx hb dX0_nthPort_0 rfl (lv_at hl 2 rfl) ?_
  refine lv_istore (lv' := [(4, .int (nI t)), (0, .ref (a 0)), (1, .long x), (3, .int (nI t))]) hx hb dX0_nthPort_1 hl (by decide) rfl (fun ls hl => ?_)
  refine lv_iconst (v := nI 1) hx hb dX0_nthPort_3 (by decide) ?_
  refine lv_istore (lv' := [(5, .int (nI 1)), (4, .int (nI t)), (0, .ref (a 0)), (1, .long x), (3, .int (nI t))]) hx hb dX0_nthPort_4 hl (by decide) rfl (fun ls hl => ?_)
  refine rd_loop (fun k ls => ∃ i u : Nat, 1 ≤ i ∧ i + k = xnq V + 1 ∧ u < 2 ^ 31 ∧ pu_nth (lb x) k i u = pu_nth (lb x) (xnq V) 1 t ∧ lv_has ls 6 [(5, .int (nI i)), (4, .int (nI u)), (0, .ref (a 0)), (1, .long x), (3, .int (nI t))]) ?_ (xnq V) ls ⟨1, t, by omega, by omega, ht, rfl, (lv_sub hl [0, 1, 2, 3, 4] rfl)⟩
  intro k ls ⟨i, u, hi, hk, hu, hR, hl⟩ ih
  refine lv_iload hx hb dX0_nthPort_6 (lv_at hl 0 rfl) ?_
  refine lv_aload_n hx hb dX0_nthPort_8 rfl (lv_at hl 2 rfl) ?_
  refine va_get (D := G) (ci := 0) (v := .int (nI (xnq V))) (C := RX0) (T := TX0) (N := 19) hx hb hts hfi hown hK hP 0 rfl rfl 4 (by decide) (hts (.fieldLink RX0 75 "PortRules" "portCount" "I") (by decide +kernel)) (fun _ h9 => h9) rfl dX0_nthPort_9 ?_
  refine nb_gt (tgt := 41) hx hb dX0_nthPort_12 (by decide) (by omega) (by omega) (fun c12 => ?_) (fun c12 => ?_)
  · refine lv_iconst (v := nI 0) hx hb dX0_nthPort_41 (by decide) ?_
    exact rd_iret hx hb hr (by rw [← hR, show k = 0 by omega]; rfl) dX0_nthPort_42 hlocks
  · obtain ⟨k, rfl⟩ : ∃ z, k = z + 1 := ⟨k - 1, by omega⟩
    refine lv_lload_n hx hb dX0_nthPort_15 rfl (lv_at hl 3 rfl) ?_
    refine lv_iload hx hb dX0_nthPort_16 (lv_at hl 0 rfl) ?_
    refine rd_callS (As := [.long x, .int (nI i)]) (rest := []) ⟨hx, hb, hml, hown, hts⟩ (cx_holds l x i (by omega)) (va_cwS 2 hts gX0_nthPort_X0_holds rfl rfl rfl (by decide +kernel) ⟨Nat.le_of_ble_eq_true rfl, Nat.le_of_ble_eq_true rfl⟩) rfl hl.1 rfl (Nat.le_of_ble_eq_true rfl) dX0_nthPort_18 ⟨Nat.zero_le _, Nat.zero_le _⟩ ?_
    refine bb_eq (tgt := 35) hx hb dX0_nthPort_21 (by decide) (fun c21 => ?_) (fun c21 => ?_)
    · refine lv_iinc (v := nI (i + 1)) (lv' := [(5, .int (nI (i + 1))), (4, .int (nI u)), (0, .ref (a 0)), (1, .long x), (3, .int (nI t))]) hx hb dX0_nthPort_35 hl (k := 0) rfl (ni_inc _) (by decide) rfl (fun ls hl => ?_)
      refine lv_goto (tgt := 6) hx hb dX0_nthPort_38 (by decide) ?_
      exact ih k ls (by omega) ⟨i + 1, u, by omega, by omega, by omega, (pu_nth_f c21).symm.trans hR, (lv_sub hl [0, 1, 2, 3, 4] rfl)⟩
    · refine lv_iload hx hb dX0_nthPort_24 (lv_at hl 1 rfl) ?_
      refine bn_ne (tgt := 32) hx hb dX0_nthPort_26 (by decide) (by omega) (fun c26 => ?_) (fun c26 => ?_)
      · refine lv_iinc (v := nI (u - 1)) (lv' := [(4, .int (nI (u - 1))), (5, .int (nI i)), (0, .ref (a 0)), (1, .long x), (3, .int (nI t))]) hx hb dX0_nthPort_32 hl (k := 1) rfl (ni_dec (by omega)) (by decide) rfl (fun ls hl => ?_)
        refine lv_iinc (v := nI (i + 1)) (lv' := [(5, .int (nI (i + 1))), (4, .int (nI (u - 1))), (0, .ref (a 0)), (1, .long x), (3, .int (nI t))]) hx hb dX0_nthPort_35 hl (k := 1) rfl (ni_inc _) (by decide) rfl (fun ls hl => ?_)
        refine lv_goto (tgt := 6) hx hb dX0_nthPort_38 (by decide) ?_
        exact ih k ls (by omega) ⟨i + 1, (u - 1), by omega, by omega, by omega, (pu_nth_n c21 (by omega)).symm.trans hR, (lv_sub hl [0, 1, 2, 3, 4] rfl)⟩
      · refine lv_iload hx hb dX0_nthPort_29 (lv_at hl 0 rfl) ?_
        exact rd_iret hx hb hr (by rw [← hR, pu_nth_t c21 c26]) dX0_nthPort_31 hlocks
set_option maxHeartbeats 4000000 in
set_option maxRecDepth 100000 in
theorem cx_isWay (l : Launch) (G : va_G) (cA : Nat → ClassId) (a : Nat → Nat) (V : XV) (p0 q0 u v : Nat) (hp : p0 ≤ 60) (hq : q0 ≤ 60) (hu : u ≤ 30) (hv : v ≤ 30) (eu : xf V 5 p0 = nI u) (ev : xf V 5 q0 = nI v) : Met l yX0_isWay wsX0_isWay { frames := 0, cells := 0, slots := 0, locals := 0 } (rd_Pc G vwC2 (tT cA) (xW cA a V) [.ref (a 0), .int (nI p0), .int (nI q0)]) (k2_QcV (.int (z1 (xWay V p0 q0 u v)))) 0 0 (fun _ => False) := by
  refine Met.ofW (cc := cX0_isWay) (maxL := 5) (ret := some .boolean) (by decide) rfl ?_
  intro p e s m args below meth c s₁ B hml hv
  obtain ⟨rfl, hP, hK⟩ := hv
  have hx := B.exec
  have hb := B.bytes
  have hr := B.returns
  have hts := atoms_spec (ws := wsX0_isWay) B.pre
  have hown : s.vm.findClass RX0 = some m.cls := findClass_of_methodNamed B.named
  have hlocks := B.notSynchronized
  have hfi : ∀ w ∈ u_ws RX0 TX0 19, w ∈ wsX0_isWay := by decide +kernel
  have hl := lv_entry ([.ref (a 0), .int (nI p0), .int (nI q0)]) (n := 5) (Nat.le_of_ble_eq_true rfl)
  rw [lg_entry_eq]
  generalize (lg_sl ([.ref (a 0), .int (nI p0), .int (nI q0)]) ++ List.replicate (5 - (lg_sl ([.ref (a 0), .int (nI p0), .int (nI q0)])).length) Slot.unset).toArray = ls at hl ⊢
  have hl : lv_has ls 5 [(0, .ref (a 0)), (1, .int (nI p0)), (2, .int (nI q0))] := hl
  refine lv_aload_n hx hb dX0_isWay_0 rfl (lv_at hl 0 rfl) ?_
  refine va_get (D := G) (ci := 0) (v := .ref (a 5)) (C := RX0) (T := TX0) (N := 19) hx hb hts hfi hown hK hP 0 rfl rfl 5 (by decide) (hts (.fieldLink RX0 20 "PortRules" "partOf" "[I") (by decide +kernel)) (fun _ h9 => h9) rfl dX0_isWay_1 ?_
  refine lv_iload_n hx hb dX0_isWay_4 rfl (lv_at hl 1 rfl) ?_
  refine rd_iald hx hb hK hP 4 0 rfl rfl (by omega) (by decide) dX0_isWay_5 ?_
  refine rd_topi (y := nI u) (eu) ?_
  refine lv_istore_n (lv' := [(3, .int (nI u)), (0, .ref (a 0)), (1, .int (nI p0)), (2, .int (nI q0))]) hx hb dX0_isWay_6 rfl hl (by decide) rfl (fun ls hl => ?_)
  refine lv_aload_n hx hb dX0_isWay_7 rfl (lv_at hl 1 rfl) ?_
  refine va_get (D := G) (ci := 0) (v := .ref (a 5)) (C := RX0) (T := TX0) (N := 19) hx hb hts hfi hown hK hP 0 rfl rfl 5 (by decide) (hts (.fieldLink RX0 20 "PortRules" "partOf" "[I") (by decide +kernel)) (fun _ h9 => h9) rfl dX0_isWay_8 ?_
  refine lv_iload_n hx hb dX0_isWay_11 rfl (lv_at hl 3 rfl) ?_
  refine rd_iald hx hb hK hP 4 0 rfl rfl (by omega) (by decide) dX0_isWay_12 ?_
  refine rd_topi (y := nI v) (ev) ?_
  refine lv_istore (lv' := [(4, .int (nI v)), (3, .int (nI u)), (0, .ref (a 0)), (1, .int (nI p0)), (2, .int (nI q0))]) hx hb dX0_isWay_13 hl (by decide) rfl (fun ls hl => ?_)
  refine lv_aload_n hx hb dX0_isWay_15 rfl (lv_at hl 2 rfl) ?_
  refine va_get (D := G) (ci := 0) (v := .ref (a 7)) (C := RX0) (T := TX0) (N := 19) hx hb hts hfi hown hK hP 0 rfl rfl 7 (by decide) (hts (.fieldLink RX0 26 "PortRules" "isProvided" "[Z") (by decide +kernel)) (fun _ h9 => h9) rfl dX0_isWay_16 ?_
  refine lv_iload_n hx hb dX0_isWay_19 rfl (lv_at hl 3 rfl) ?_
  refine rd_zald hx hb hK hP 6 1 rfl rfl (by omega) (by decide) dX0_isWay_20 ?_
  refine lv_if_ne (tgt := 50) hx hb dX0_isWay_21 (by decide) (fun c21 => ?_) (fun c21 => ?_)
  · refine lv_aload_n hx hb dX0_isWay_50 rfl (lv_at hl 2 rfl) ?_
    refine va_get (D := G) (ci := 0) (v := .ref (a 7)) (C := RX0) (T := TX0) (N := 19) hx hb hts hfi hown hK hP 0 rfl rfl 7 (by decide) (hts (.fieldLink RX0 26 "PortRules" "isProvided" "[Z") (by decide +kernel)) (fun _ h9 => h9) rfl dX0_isWay_51 ?_
    refine lv_iload_n hx hb dX0_isWay_54 rfl (lv_at hl 4 rfl) ?_
    refine rd_zald hx hb hK hP 6 1 rfl rfl (by omega) (by decide) dX0_isWay_55 ?_
    refine lv_if_eq (tgt := 76) hx hb dX0_isWay_56 (by decide) (fun c56 => ?_) (fun c56 => ?_)
    · refine lv_iload_n hx hb dX0_isWay_76 rfl (lv_at hl 1 rfl) ?_
      refine lv_iload hx hb dX0_isWay_77 (lv_at hl 0 rfl) ?_
      refine lv_icmp_eq (tgt := 102) hx hb dX0_isWay_79 (by decide) (fun c79 => ?_) (fun c79 => ?_)
      · refine lv_iconst (v := 0) hx hb dX0_isWay_102 (by decide) ?_
        exact rd_zret hx hb hr rfl (z1_f (by unfold xWay; simp [c21, c56, c79])) dX0_isWay_103 hlocks
      · refine lv_aload_n hx hb dX0_isWay_82 rfl (lv_at hl 2 rfl) ?_
        refine va_get (D := G) (ci := 0) (v := .ref (a 1)) (C := RX0) (T := TX0) (N := 19) hx hb hts hfi hown hK hP 0 rfl rfl 1 (by decide) (hts (.fieldLink RX0 9 "PortRules" "compositionOf" "[I") (by decide +kernel)) (fun _ h9 => h9) rfl dX0_isWay_83 ?_
        refine lv_iload_n hx hb dX0_isWay_86 rfl (lv_at hl 1 rfl) ?_
        refine rd_iald hx hb hK hP 1 0 rfl rfl (by omega) (by decide) dX0_isWay_87 ?_
        refine lv_aload_n hx hb dX0_isWay_88 rfl (lv_at hl 2 rfl) ?_
        refine va_get (D := G) (ci := 0) (v := .ref (a 1)) (C := RX0) (T := TX0) (N := 19) hx hb hts hfi hown hK hP 0 rfl rfl 1 (by decide) (hts (.fieldLink RX0 9 "PortRules" "compositionOf" "[I") (by decide +kernel)) (fun _ h9 => h9) rfl dX0_isWay_89 ?_
        refine lv_iload hx hb dX0_isWay_92 (lv_at hl 0 rfl) ?_
        refine rd_iald hx hb hK hP 1 0 rfl rfl (by omega) (by decide) dX0_isWay_94 ?_
        refine lv_icmp_ne (tgt := 102) hx hb dX0_isWay_95 (by decide) (fun c95 => ?_) (fun c95 => ?_)
        · refine lv_iconst (v := 0) hx hb dX0_isWay_102 (by decide) ?_
          exact rd_zret hx hb hr rfl (z1_f (by unfold xWay; simp [c21, c56, c79, c95])) dX0_isWay_103 hlocks
        · refine lv_iconst (v := 1) hx hb dX0_isWay_98 (by decide) ?_
          refine lv_goto (tgt := 103) hx hb dX0_isWay_99 (by decide) ?_
          exact rd_zret hx hb hr rfl (z1_t (by unfold xWay; simp [c21, c56, c79, c95])) dX0_isWay_103 hlocks
    · refine lv_aload_n hx hb dX0_isWay_59 rfl (lv_at hl 2 rfl) ?_
      refine va_get (D := G) (ci := 0) (v := .ref (a 1)) (C := RX0) (T := TX0) (N := 19) hx hb hts hfi hown hK hP 0 rfl rfl 1 (by decide) (hts (.fieldLink RX0 9 "PortRules" "compositionOf" "[I") (by decide +kernel)) (fun _ h9 => h9) rfl dX0_isWay_60 ?_
      refine lv_iload_n hx hb dX0_isWay_63 rfl (lv_at hl 1 rfl) ?_
      refine rd_iald hx hb hK hP 1 0 rfl rfl (by omega) (by decide) dX0_isWay_64 ?_
      refine lv_iload hx hb dX0_isWay_65 (lv_at hl 0 rfl) ?_
      refine lv_icmp_ne (tgt := 74) hx hb dX0_isWay_67 (by decide) (fun c67 => ?_) (fun c67 => ?_)
      · refine lv_iconst (v := 0) hx hb dX0_isWay_74 (by decide) ?_
        exact rd_zret hx hb hr rfl (z1_f (by unfold xWay; simp [c21, c56, c67])) dX0_isWay_75 hlocks
      · refine lv_iconst (v := 1) hx hb dX0_isWay_70 (by decide) ?_
        refine lv_goto (tgt := 75) hx hb dX0_isWay_71 (by decide) ?_
        exact rd_zret hx hb hr rfl (z1_t (by unfold xWay; simp [c21, c56, c67])) dX0_isWay_75 hlocks
  · refine lv_aload_n hx hb dX0_isWay_24 rfl (lv_at hl 2 rfl) ?_
    refine va_get (D := G) (ci := 0) (v := .ref (a 7)) (C := RX0) (T := TX0) (N := 19) hx hb hts hfi hown hK hP 0 rfl rfl 7 (by decide) (hts (.fieldLink RX0 26 "PortRules" "isProvided" "[Z") (by decide +kernel)) (fun _ h9 => h9) rfl dX0_isWay_25 ?_
    refine lv_iload_n hx hb dX0_isWay_28 rfl (lv_at hl 4 rfl) ?_
    refine rd_zald hx hb hK hP 6 1 rfl rfl (by omega) (by decide) dX0_isWay_29 ?_
    refine lv_if_ne (tgt := 48) hx hb dX0_isWay_30 (by decide) (fun c30 => ?_) (fun c30 => ?_)
    · refine lv_iconst (v := 0) hx hb dX0_isWay_48 (by decide) ?_
      exact rd_zret hx hb hr rfl (z1_f (by unfold xWay; simp [c21, c30])) dX0_isWay_49 hlocks
    · refine lv_aload_n hx hb dX0_isWay_33 rfl (lv_at hl 2 rfl) ?_
      refine va_get (D := G) (ci := 0) (v := .ref (a 1)) (C := RX0) (T := TX0) (N := 19) hx hb hts hfi hown hK hP 0 rfl rfl 1 (by decide) (hts (.fieldLink RX0 9 "PortRules" "compositionOf" "[I") (by decide +kernel)) (fun _ h9 => h9) rfl dX0_isWay_34 ?_
      refine lv_iload hx hb dX0_isWay_37 (lv_at hl 0 rfl) ?_
      refine rd_iald hx hb hK hP 1 0 rfl rfl (by omega) (by decide) dX0_isWay_39 ?_
      refine lv_iload_n hx hb dX0_isWay_40 rfl (lv_at hl 1 rfl) ?_
      refine lv_icmp_ne (tgt := 48) hx hb dX0_isWay_41 (by decide) (fun c41 => ?_) (fun c41 => ?_)
      · refine lv_iconst (v := 0) hx hb dX0_isWay_48 (by decide) ?_
        exact rd_zret hx hb hr rfl (z1_f (by unfold xWay; simp [c21, c30, c41])) dX0_isWay_49 hlocks
      · refine lv_iconst (v := 1) hx hb dX0_isWay_44 (by decide) ?_
        refine lv_goto (tgt := 49) hx hb dX0_isWay_45 (by decide) ?_
        exact rd_zret hx hb hr rfl (z1_t (by unfold xWay; simp [c21, c30, c41])) dX0_isWay_49 hlocks
set_option maxHeartbeats 4000000 in
set_option maxRecDepth 100000 in
theorem cx_flatSeconds (l : Launch) (G : va_G) (cA : Nat → ClassId) (a : Nat → Nat) (V : XV)  (h60 : xnq V ≤ 60) : Met l yX0_flatSeconds wsX0_flatSeconds { frames := 3, cells := 0, slots := 0, locals := 63 } (rd_Pc G vwC2 (tT cA) (xW cA a V) [.ref (a 0)]) (k2_QcV (.long (xSec V))) 0 0 (fun _ => False) := by
  refine Met.ofW (cc := cX0_flatSeconds) (maxL := 4) (ret := some .long) (by decide) rfl ?_
  intro p e s m args below meth c s₁ B hml hv
  obtain ⟨rfl, hP, hK⟩ := hv
  have hx := B.exec
  have hb := B.bytes
  have hr := B.returns
  have hts := atoms_spec (ws := wsX0_flatSeconds) B.pre
  have hown : s.vm.findClass RX0 = some m.cls := findClass_of_methodNamed B.named
  have hlocks := B.notSynchronized
  have hfi : ∀ w ∈ u_ws RX0 TX0 19, w ∈ wsX0_flatSeconds := by decide +kernel
  have hl := lv_entry ([.ref (a 0)]) (n := 4) (Nat.le_of_ble_eq_true rfl)
  rw [lg_entry_eq]
  generalize (lg_sl ([.ref (a 0)]) ++ List.replicate (4 - (lg_sl ([.ref (a 0)])).length) Slot.unset).toArray = ls at hl ⊢
  have hl : lv_has ls 4 [(0, .ref (a 0))] := hl
  refine lv_lconst (v := 0) hx hb dX0_flatSeconds_0 (by decide) ?_
  refine lv_lstore_n (lv' := [(1, .long 0), (0, .ref (a 0))]) hx hb dX0_flatSeconds_1 rfl hl (by decide) rfl (fun ls hl => ?_)
  refine lv_iconst (v := nI 1) hx hb dX0_flatSeconds_2 (by decide) ?_
  refine lv_istore_n (lv' := [(3, .int (nI 1)), (1, .long 0), (0, .ref (a 0))]) hx hb dX0_flatSeconds_3 rfl hl (by decide) rfl (fun ls hl => ?_)
  refine rd_loop (fun k ls => ∃ (i : Nat) (y : Int64), 1 ≤ i ∧ i + k = xnq V + 1 ∧ pu_or (xFl V) k i y = xSec V ∧ lv_has ls 4 [(3, .int (nI i)), (1, .long y), (0, .ref (a 0))]) ?_ (xnq V) ls ⟨1, 0, by omega, by omega, rfl, (lv_sub hl [0, 1, 2] rfl)⟩
  intro k4 ls ⟨i, y, hi, hk, hR, hl⟩ ih4
  refine lv_iload_n hx hb dX0_flatSeconds_4 rfl (lv_at hl 0 rfl) ?_
  refine lv_aload_n hx hb dX0_flatSeconds_5 rfl (lv_at hl 2 rfl) ?_
  refine va_get (D := G) (ci := 0) (v := .int (nI (xnq V))) (C := RX0) (T := TX0) (N := 19) hx hb hts hfi hown hK hP 0 rfl rfl 4 (by decide) (hts (.fieldLink RX0 75 "PortRules" "portCount" "I") (by decide +kernel)) (fun _ h9 => h9) rfl dX0_flatSeconds_6 ?_
  refine nb_gt (tgt := 26) hx hb dX0_flatSeconds_9 (by decide) (by omega) (by omega) (fun c9 => ?_) (fun c9 => ?_)
  · refine lv_lload_n hx hb dX0_flatSeconds_26 rfl (lv_at hl 1 rfl) ?_
    exact rd_lret hx hb hr (by rw [← hR, show k4 = 0 by omega]; rfl) dX0_flatSeconds_27 hlocks
  · obtain ⟨k4, rfl⟩ : ∃ z, k4 = z + 1 := ⟨k4 - 1, by omega⟩
    refine lv_lload_n hx hb dX0_flatSeconds_12 rfl (lv_at hl 1 rfl) ?_
    refine lv_aload_n hx hb dX0_flatSeconds_13 rfl (lv_at hl 2 rfl) ?_
    refine lv_iload_n hx hb dX0_flatSeconds_14 rfl (lv_at hl 0 rfl) ?_
    refine rd_callV (As := [.int (nI i)]) (rest := [.long y]) (b := a 0) (q0 := 0) (ci := 0) ⟨hx, hb, hml, hown, hts⟩ (cx_flatFrom l G cA a V i (by omega)) (cwV 1 hts gX0_flatSeconds_X0_flatFrom rfl rfl rfl (by decide +kernel) ⟨Nat.le_of_ble_eq_true rfl, Nat.le_of_ble_eq_true rfl⟩) hK hP rfl rfl rfl rfl hl.1 rfl (Nat.le_of_ble_eq_true rfl) dX0_flatSeconds_15 ⟨Nat.zero_le _, Nat.zero_le _⟩ ?_
    refine lv_lor hx hb dX0_flatSeconds_18 ?_
    refine lv_lstore_n (lv' := [(1, .long (y ||| (xFl V i))), (3, .int (nI i)), (0, .ref (a 0))]) hx hb dX0_flatSeconds_19 rfl hl (by decide) rfl (fun ls hl => ?_)
    refine lv_iinc (v := nI (i + 1)) (lv' := [(3, .int (nI (i + 1))), (1, .long (y ||| (xFl V i))), (0, .ref (a 0))]) hx hb dX0_flatSeconds_20 hl (k := 1) rfl (ni_inc _) (by decide) rfl (fun ls hl => ?_)
    refine lv_goto (tgt := 4) hx hb dX0_flatSeconds_23 (by decide) ?_
    exact ih4 k4 ls (by omega) ⟨i + 1, y ||| xFl V i, by omega, by omega, hR, (lv_sub hl [0, 1, 2] rfl)⟩
set_option maxHeartbeats 4000000 in
set_option maxRecDepth 100000 in
theorem cx_flatCountTo (l : Launch) (G : va_G) (cA : Nat → ClassId) (a : Nat → Nat) (V : XV) (q0 : Nat) (h60 : xnq V ≤ 60) (hq : q0 ≤ 60) : Met l yX0_flatCountTo wsX0_flatCountTo { frames := 3, cells := 0, slots := 0, locals := 63 } (rd_Pc G vwC2 (tT cA) (xW cA a V) [.ref (a 0), .int (nI q0)]) (k2_QcV (.int (nI (xTo V q0)))) 0 0 (fun _ => False) := by
  refine Met.ofW (cc := cX0_flatCountTo) (maxL := 4) (ret := some .int) (by decide) rfl ?_
  intro p e s m args below meth c s₁ B hml hv
  obtain ⟨rfl, hP, hK⟩ := hv
  have hx := B.exec
  have hb := B.bytes
  have hr := B.returns
  have hts := atoms_spec (ws := wsX0_flatCountTo) B.pre
  have hown : s.vm.findClass RX0 = some m.cls := findClass_of_methodNamed B.named
  have hlocks := B.notSynchronized
  have hfi : ∀ w ∈ u_ws RX0 TX0 19, w ∈ wsX0_flatCountTo := by decide +kernel
  have hl := lv_entry ([.ref (a 0), .int (nI q0)]) (n := 4) (Nat.le_of_ble_eq_true rfl)
  rw [lg_entry_eq]
  generalize (lg_sl ([.ref (a 0), .int (nI q0)]) ++ List.replicate (4 - (lg_sl ([.ref (a 0), .int (nI q0)])).length) Slot.unset).toArray = ls at hl ⊢
  have hl : lv_has ls 4 [(0, .ref (a 0)), (1, .int (nI q0))] := hl
  refine lv_iconst (v := nI 0) hx hb dX0_flatCountTo_0 (by decide) ?_
  refine lv_istore_n (lv' := [(2, .int (nI 0)), (0, .ref (a 0)), (1, .int (nI q0))]) hx hb dX0_flatCountTo_1 rfl hl (by decide) rfl (fun ls hl => ?_)
  refine lv_iconst (v := nI 1) hx hb dX0_flatCountTo_2 (by decide) ?_
  refine lv_istore_n (lv' := [(3, .int (nI 1)), (2, .int (nI 0)), (0, .ref (a 0)), (1, .int (nI q0))]) hx hb dX0_flatCountTo_3 rfl hl (by decide) rfl (fun ls hl => ?_)
  refine rd_loop (fun k ls => ∃ i n : Nat, 1 ≤ i ∧ i + k = xnq V + 1 ∧ n + pu_cnt (fun p0 => xF V p0 q0) k i = xTo V q0 ∧ lv_has ls 4 [(3, .int (nI i)), (2, .int (nI n)), (0, .ref (a 0)), (1, .int (nI q0))]) ?_ (xnq V) ls ⟨1, 0, by omega, by omega, Nat.zero_add _, (lv_sub hl [0, 1, 2, 3] rfl)⟩
  intro k4 ls ⟨i, n, hi, hk, hR, hl⟩ ih4
  refine lv_iload_n hx hb dX0_flatCountTo_4 rfl (lv_at hl 0 rfl) ?_
  refine lv_aload_n hx hb dX0_flatCountTo_5 rfl (lv_at hl 2 rfl) ?_
  refine va_get (D := G) (ci := 0) (v := .int (nI (xnq V))) (C := RX0) (T := TX0) (N := 19) hx hb hts hfi hown hK hP 0 rfl rfl 4 (by decide) (hts (.fieldLink RX0 75 "PortRules" "portCount" "I") (by decide +kernel)) (fun _ h9 => h9) rfl dX0_flatCountTo_6 ?_
  refine nb_gt (tgt := 33) hx hb dX0_flatCountTo_9 (by decide) (by omega) (by omega) (fun c9 => ?_) (fun c9 => ?_)
  · refine lv_iload_n hx hb dX0_flatCountTo_33 rfl (lv_at hl 1 rfl) ?_
    exact rd_iret hx hb hr (by rw [← hR, show k4 = 0 by omega]; rfl) dX0_flatCountTo_34 hlocks
  · obtain ⟨k4, rfl⟩ : ∃ z, k4 = z + 1 := ⟨k4 - 1, by omega⟩
    refine lv_aload_n hx hb dX0_flatCountTo_12 rfl (lv_at hl 2 rfl) ?_
    refine lv_iload_n hx hb dX0_flatCountTo_13 rfl (lv_at hl 0 rfl) ?_
    refine rd_callV (As := [.int (nI i)]) (rest := []) (b := a 0) (q0 := 0) (ci := 0) ⟨hx, hb, hml, hown, hts⟩ (cx_flatFrom l G cA a V i (by omega)) (cwV 1 hts gX0_flatCountTo_X0_flatFrom rfl rfl rfl (by decide +kernel) ⟨Nat.le_of_ble_eq_true rfl, Nat.le_of_ble_eq_true rfl⟩) hK hP rfl rfl rfl rfl hl.1 rfl (Nat.le_of_ble_eq_true rfl) dX0_flatCountTo_14 ⟨Nat.zero_le _, Nat.zero_le _⟩ ?_
    refine lv_iload_n hx hb dX0_flatCountTo_17 rfl (lv_at hl 3 rfl) ?_
    refine rd_callS (As := [.long (xFl V i), .int (nI q0)]) (rest := []) ⟨hx, hb, hml, hown, hts⟩ (cx_holds l (xFl V i) q0 (by omega)) (va_cwS 2 hts gX0_flatCountTo_X0_holds rfl rfl rfl (by decide +kernel) ⟨Nat.le_of_ble_eq_true rfl, Nat.le_of_ble_eq_true rfl⟩) rfl hl.1 rfl (Nat.le_of_ble_eq_true rfl) dX0_flatCountTo_18 ⟨Nat.zero_le _, Nat.zero_le _⟩ ?_
    refine bb_eq (tgt := 27) hx hb dX0_flatCountTo_21 (by decide) (fun c21 => ?_) (fun c21 => ?_)
    · refine lv_iinc (v := nI (i + 1)) (lv' := [(3, .int (nI (i + 1))), (2, .int (nI n)), (0, .ref (a 0)), (1, .int (nI q0))]) hx hb dX0_flatCountTo_27 hl (k := 0) rfl (ni_inc _) (by decide) rfl (fun ls hl => ?_)
      refine lv_goto (tgt := 4) hx hb dX0_flatCountTo_30 (by decide) ?_
      exact ih4 k4 ls (by omega) ⟨i + 1, n, by omega, by omega, by have h := pu_cnt_f (k := k4) (P := fun p0 => xF V p0 q0) (i := i) c21; omega, (lv_sub hl [0, 1, 2, 3] rfl)⟩
    · refine lv_iinc (v := nI (n + 1)) (lv' := [(2, .int (nI (n + 1))), (3, .int (nI i)), (0, .ref (a 0)), (1, .int (nI q0))]) hx hb dX0_flatCountTo_24 hl (k := 1) rfl (ni_inc _) (by decide) rfl (fun ls hl => ?_)
      refine lv_iinc (v := nI (i + 1)) (lv' := [(3, .int (nI (i + 1))), (2, .int (nI (n + 1))), (0, .ref (a 0)), (1, .int (nI q0))]) hx hb dX0_flatCountTo_27 hl (k := 1) rfl (ni_inc _) (by decide) rfl (fun ls hl => ?_)
      refine lv_goto (tgt := 4) hx hb dX0_flatCountTo_30 (by decide) ?_
      exact ih4 k4 ls (by omega) ⟨i + 1, n + 1, by omega, by omega, by have h := pu_cnt_t (k := k4) (P := fun p0 => xF V p0 q0) (i := i) c21; omega, (lv_sub hl [0, 1, 2, 3] rfl)⟩
set_option maxHeartbeats 4000000 in
set_option maxRecDepth 100000 in
theorem cx_isPortRule (l : Launch) (r0 : Nat) (hr0 : r0 < 2 ^ 31) : Met l yX0_isPortRule wsX0_isPortRule { frames := 0, cells := 0, slots := 0, locals := 0 } (fun v _ => v = ([.int (nI r0)] : List Value).toArray) (k2_QcV (.int (z1 (decide (5 ≤ r0 ∧ r0 ≤ 8))))) 0 0 (fun _ => False) := by
  refine Met.ofW (cc := cX0_isPortRule) (maxL := 1) (ret := some .boolean) (by decide) rfl ?_
  intro p e s m args below meth c s₁ B hml hv
  obtain rfl := hv
  have hx := B.exec
  have hb := B.bytes
  have hr := B.returns
  have hts := atoms_spec (ws := wsX0_isPortRule) B.pre
  have hown : s.vm.findClass RX0 = some m.cls := findClass_of_methodNamed B.named
  have hlocks := B.notSynchronized
  have hl := lv_entry ([.int (nI r0)]) (n := 1) (Nat.le_of_ble_eq_true rfl)
  rw [lg_entry_eq]
  generalize (lg_sl ([.int (nI r0)]) ++ List.replicate (1 - (lg_sl ([.int (nI r0)])).length) Slot.unset).toArray = ls at hl ⊢
  have hl : lv_has ls 1 [(0, .int (nI r0))] := hl
  refine lv_iload_n hx hb dX0_isPortRule_0 rfl (lv_at hl 0 rfl) ?_
  refine lv_iconst (v := 5) hx hb dX0_isPortRule_1 (by decide) ?_
  refine bi_lt (a := ((r0 : Nat) : Int)) (b := 5) (tgt := 15) hx hb dX0_isPortRule_2 (by decide) (nI_toInt (by omega)) (by decide) (fun c2 => ?_) (fun c2 => ?_)
  · refine lv_iconst (v := 0) hx hb dX0_isPortRule_15 (by decide) ?_
    exact rd_zret hx hb hr rfl (z1_f (decide_eq_false (by omega))) dX0_isPortRule_16 hlocks
  · refine lv_iload_n hx hb dX0_isPortRule_5 rfl (lv_at hl 0 rfl) ?_
    refine lv_bipush (v := 8) hx hb dX0_isPortRule_6 (by decide) ?_
    refine bi_gt (a := ((r0 : Nat) : Int)) (b := 8) (tgt := 15) hx hb dX0_isPortRule_8 (by decide) (nI_toInt (by omega)) (by decide) (fun c8 => ?_) (fun c8 => ?_)
    · refine lv_iconst (v := 0) hx hb dX0_isPortRule_15 (by decide) ?_
      exact rd_zret hx hb hr rfl (z1_f (decide_eq_false (by omega))) dX0_isPortRule_16 hlocks
    · refine lv_iconst (v := 1) hx hb dX0_isPortRule_11 (by decide) ?_
      refine lv_goto (tgt := 16) hx hb dX0_isPortRule_12 (by decide) ?_
      exact rd_zret hx hb hr rfl (z1_t (decide_eq_true (by omega))) dX0_isPortRule_16 hlocks
set_option maxHeartbeats 4000000 in
set_option maxRecDepth 100000 in
theorem cx_portBreaks (l : Launch) (G : va_G) (cA : Nat → ClassId) (a : Nat → Nat) (V : XV) (r0 q0 : Nat) (h60 : xnq V ≤ 60) (hr0 : r0 ≤ 9) (hq : q0 ≤ 60) : Met l yX0_portBreaks wsX0_portBreaks { frames := 4, cells := 0, slots := 0, locals := 86 } (rd_Pc G vwC2 (tT cA) (xW cA a V) [.ref (a 0), .int (nI r0), .int (nI q0)]) (k2_QcV (.int (z1 (xPB V r0 q0)))) 0 0 (fun _ => False) := by
  refine Met.ofW (cc := cX0_portBreaks) (maxL := 4) (ret := some .boolean) (by decide) rfl ?_
  intro p e s m args below meth c s₁ B hml hv
  obtain ⟨rfl, hP, hK⟩ := hv
  have hx := B.exec
  have hb := B.bytes
  have hr := B.returns
  have hts := atoms_spec (ws := wsX0_portBreaks) B.pre
  have hown : s.vm.findClass RX0 = some m.cls := findClass_of_methodNamed B.named
  have hlocks := B.notSynchronized
  have hfi : ∀ w ∈ u_ws RX0 TX0 19, w ∈ wsX0_portBreaks := by decide +kernel
  have hl := lv_entry ([.ref (a 0), .int (nI r0), .int (nI q0)]) (n := 4) (Nat.le_of_ble_eq_true rfl)
  rw [lg_entry_eq]
  generalize (lg_sl ([.ref (a 0), .int (nI r0), .int (nI q0)]) ++ List.replicate (4 - (lg_sl ([.ref (a 0), .int (nI r0), .int (nI q0)])).length) Slot.unset).toArray = ls at hl ⊢
  have hl : lv_has ls 4 [(0, .ref (a 0)), (1, .int (nI r0)), (2, .int (nI q0))] := hl
  have hto := xTo_le V q0
  refine lv_aload_n hx hb dX0_portBreaks_0 rfl (lv_at hl 0 rfl) ?_
  refine va_get (D := G) (ci := 0) (v := .ref (a 6)) (C := RX0) (T := TX0) (N := 19) hx hb hts hfi hown hK hP 0 rfl rfl 6 (by decide) (hts (.fieldLink RX0 23 "PortRules" "kindOf" "[I") (by decide +kernel)) (fun _ h9 => h9) rfl dX0_portBreaks_1 ?_
  refine lv_iload_n hx hb dX0_portBreaks_4 rfl (lv_at hl 2 rfl) ?_
  refine rd_iald hx hb hK hP 5 0 rfl rfl (by omega) (by decide) dX0_portBreaks_5 ?_
  refine lv_iconst (v := 2) hx hb dX0_portBreaks_6 (by decide) ?_
  refine lv_icmp_ne (tgt := 14) hx hb dX0_portBreaks_7 (by decide) (fun c7 => ?_) (fun c7 => ?_)
  · refine lv_iconst (v := 0) hx hb dX0_portBreaks_14 (by decide) ?_
    refine lv_istore_n (lv' := [(3, .int 0), (0, .ref (a 0)), (1, .int (nI r0)), (2, .int (nI q0))]) hx hb dX0_portBreaks_15 rfl hl (by decide) rfl (fun ls hl => ?_)
    refine lv_iload_n hx hb dX0_portBreaks_16 rfl (lv_at hl 2 rfl) ?_
    by_cases r5 : r0 = 5
    · subst r5
      refine lv_tableIn (off := 27) (tgt := 44) hx hb dX0_portBreaks_17 (by decide) (by decide) (by decide) (by decide) ?_
      refine lv_iload_n hx hb dX0_portBreaks_44 rfl (lv_at hl 0 rfl) ?_
      refine lv_if_ne (tgt := 69) hx hb dX0_portBreaks_45 (by decide) (fun c45 => absurd c45 (by decide)) (fun _ => ?_)
      refine lv_aload_n hx hb dX0_portBreaks_48 rfl (lv_at hl 1 rfl) ?_
      refine va_get (D := G) (ci := 0) (v := .ref (a 12)) (C := RX0) (T := TX0) (N := 19) hx hb hts hfi hown hK hP 0 rfl rfl 12 (by decide) (hts (.fieldLink RX0 42 "PortRules" "hasFallback" "[Z") (by decide +kernel)) (fun _ h9 => h9) rfl dX0_portBreaks_49 ?_
      refine lv_iload_n hx hb dX0_portBreaks_52 rfl (lv_at hl 3 rfl) ?_
      refine rd_zald hx hb hK hP 11 1 rfl rfl (by omega) (by decide) dX0_portBreaks_53 ?_
      refine lv_if_ne (tgt := 69) hx hb dX0_portBreaks_54 (by decide) (fun c54 => ?_) (fun c54 => ?_)
      · refine lv_iconst (v := 0) hx hb dX0_portBreaks_69 (by decide) ?_
        exact rd_zret hx hb hr rfl (z1_f (by unfold xPB; simp [c54, c7] <;> omega)) dX0_portBreaks_70 hlocks
      · refine lv_aload_n hx hb dX0_portBreaks_57 rfl (lv_at hl 1 rfl) ?_
        refine lv_iload_n hx hb dX0_portBreaks_58 rfl (lv_at hl 3 rfl) ?_
        refine rd_callV (As := [.int (nI q0)]) (rest := []) (b := a 0) (q0 := 0) (ci := 0) ⟨hx, hb, hml, hown, hts⟩ (cx_flatCountTo l G cA a V q0 h60 (by omega)) (cwV 1 hts gX0_portBreaks_X0_flatCountTo rfl rfl rfl (by decide +kernel) ⟨Nat.le_of_ble_eq_true rfl, Nat.le_of_ble_eq_true rfl⟩) hK hP rfl rfl rfl rfl hl.1 rfl (Nat.le_of_ble_eq_true rfl) dX0_portBreaks_59 ⟨Nat.zero_le _, Nat.zero_le _⟩ ?_
        refine bn_ne (tgt := 69) hx hb dX0_portBreaks_62 (by decide) (by omega) (fun c62 => ?_) (fun c62 => ?_)
        · refine lv_iconst (v := 0) hx hb dX0_portBreaks_69 (by decide) ?_
          exact rd_zret hx hb hr rfl (z1_f (by unfold xPB; simp [c54, c62, c7] <;> omega)) dX0_portBreaks_70 hlocks
        · refine lv_iconst (v := 1) hx hb dX0_portBreaks_65 (by decide) ?_
          refine lv_goto (tgt := 70) hx hb dX0_portBreaks_66 (by decide) ?_
          exact rd_zret hx hb hr rfl (z1_t (by unfold xPB; simp [c54, c62, c7] <;> omega)) dX0_portBreaks_70 hlocks
    · skip
      by_cases r6 : r0 = 6
      · subst r6
        refine lv_tableIn (off := 54) (tgt := 71) hx hb dX0_portBreaks_17 (by decide) (by decide) (by decide) (by decide) ?_
        refine lv_iload_n hx hb dX0_portBreaks_71 rfl (lv_at hl 0 rfl) ?_
        refine lv_if_eq (tgt := 87) hx hb dX0_portBreaks_72 (by decide) (fun _ => ?_) (fun c72 => absurd c72 (by decide))
        refine lv_iconst (v := 0) hx hb dX0_portBreaks_87 (by decide) ?_
        exact rd_zret hx hb hr rfl (z1_f (by unfold xPB; simp [c7] <;> omega)) dX0_portBreaks_88 hlocks
      · skip
        by_cases r7 : r0 = 7
        · subst r7
          refine lv_tableIn (off := 72) (tgt := 89) hx hb dX0_portBreaks_17 (by decide) (by decide) (by decide) (by decide) ?_
          refine lv_iload_n hx hb dX0_portBreaks_89 rfl (lv_at hl 0 rfl) ?_
          refine lv_if_eq (tgt := 106) hx hb dX0_portBreaks_90 (by decide) (fun _ => ?_) (fun c90 => absurd c90 (by decide))
          refine lv_iconst (v := 0) hx hb dX0_portBreaks_106 (by decide) ?_
          exact rd_zret hx hb hr rfl (z1_f (by unfold xPB; simp [c7] <;> omega)) dX0_portBreaks_107 hlocks
        · skip
          refine lv_tableOut (tgt := 108) hx hb dX0_portBreaks_17 (by rw [nI_toInt (by omega)]; omega) (by decide) ?_
          refine lv_aload_n hx hb dX0_portBreaks_108 rfl (lv_at hl 1 rfl) ?_
          refine va_get (D := G) (ci := 0) (v := .ref (a 6)) (C := RX0) (T := TX0) (N := 19) hx hb hts hfi hown hK hP 0 rfl rfl 6 (by decide) (hts (.fieldLink RX0 23 "PortRules" "kindOf" "[I") (by decide +kernel)) (fun _ h9 => h9) rfl dX0_portBreaks_109 ?_
          refine lv_iload_n hx hb dX0_portBreaks_112 rfl (lv_at hl 3 rfl) ?_
          refine rd_iald hx hb hK hP 5 0 rfl rfl (by omega) (by decide) dX0_portBreaks_113 ?_
          refine lv_iconst (v := 1) hx hb dX0_portBreaks_114 (by decide) ?_
          refine lv_icmp_ne (tgt := 131) hx hb dX0_portBreaks_115 (by decide) (fun c115 => ?_) (fun c115 => ?_)
          · refine lv_iconst (v := 0) hx hb dX0_portBreaks_131 (by decide) ?_
            exact rd_zret hx hb hr rfl (z1_f (by unfold xPB; simp [c115, c7, r5, r6, r7] <;> omega)) dX0_portBreaks_132 hlocks
          · refine lv_aload_n hx hb dX0_portBreaks_118 rfl (lv_at hl 1 rfl) ?_
            refine va_get (D := G) (ci := 0) (v := .ref (a 14)) (C := RX0) (T := TX0) (N := 19) hx hb hts hfi hown hK hP 0 rfl rfl 14 (by decide) (hts (.fieldLink RX0 48 "PortRules" "queueOf" "[I") (by decide +kernel)) (fun _ h9 => h9) rfl dX0_portBreaks_119 ?_
            refine lv_iload_n hx hb dX0_portBreaks_122 rfl (lv_at hl 3 rfl) ?_
            refine rd_iald hx hb hK hP 13 0 rfl rfl (by omega) (by decide) dX0_portBreaks_123 ?_
            refine lv_if_ne (tgt := 131) hx hb dX0_portBreaks_124 (by decide) (fun c124 => ?_) (fun c124 => ?_)
            · refine lv_iconst (v := 0) hx hb dX0_portBreaks_131 (by decide) ?_
              exact rd_zret hx hb hr rfl (z1_f (by unfold xPB; simp [c115, c124, c7, r5, r6, r7] <;> omega)) dX0_portBreaks_132 hlocks
            · refine lv_iconst (v := 1) hx hb dX0_portBreaks_127 (by decide) ?_
              refine lv_goto (tgt := 132) hx hb dX0_portBreaks_128 (by decide) ?_
              exact rd_zret hx hb hr rfl (z1_t (by unfold xPB; simp [c115, c124, c7, r5, r6, r7] <;> omega)) dX0_portBreaks_132 hlocks
  · refine lv_iconst (v := 1) hx hb dX0_portBreaks_10 (by decide) ?_
    refine lv_goto (tgt := 15) hx hb dX0_portBreaks_11 (by decide) ?_
    refine lv_istore_n (lv' := [(3, .int 1), (0, .ref (a 0)), (1, .int (nI r0)), (2, .int (nI q0))]) hx hb dX0_portBreaks_15 rfl hl (by decide) rfl (fun ls hl => ?_)
    refine lv_iload_n hx hb dX0_portBreaks_16 rfl (lv_at hl 2 rfl) ?_
    by_cases r5 : r0 = 5
    · subst r5
      refine lv_tableIn (off := 27) (tgt := 44) hx hb dX0_portBreaks_17 (by decide) (by decide) (by decide) (by decide) ?_
      refine lv_iload_n hx hb dX0_portBreaks_44 rfl (lv_at hl 0 rfl) ?_
      refine lv_if_ne (tgt := 69) hx hb dX0_portBreaks_45 (by decide) (fun _ => ?_) (fun c45 => absurd c45 (by decide))
      refine lv_iconst (v := 0) hx hb dX0_portBreaks_69 (by decide) ?_
      exact rd_zret hx hb hr rfl (z1_f (by unfold xPB; simp [c7] <;> omega)) dX0_portBreaks_70 hlocks
    · skip
      by_cases r6 : r0 = 6
      · subst r6
        refine lv_tableIn (off := 54) (tgt := 71) hx hb dX0_portBreaks_17 (by decide) (by decide) (by decide) (by decide) ?_
        refine lv_iload_n hx hb dX0_portBreaks_71 rfl (lv_at hl 0 rfl) ?_
        refine lv_if_eq (tgt := 87) hx hb dX0_portBreaks_72 (by decide) (fun c72 => absurd c72 (by decide)) (fun _ => ?_)
        refine lv_aload_n hx hb dX0_portBreaks_75 rfl (lv_at hl 1 rfl) ?_
        refine lv_iload_n hx hb dX0_portBreaks_76 rfl (lv_at hl 3 rfl) ?_
        refine rd_callV (As := [.int (nI q0)]) (rest := []) (b := a 0) (q0 := 0) (ci := 0) ⟨hx, hb, hml, hown, hts⟩ (cx_flatCountTo l G cA a V q0 h60 (by omega)) (cwV 1 hts gX0_portBreaks_X0_flatCountTo rfl rfl rfl (by decide +kernel) ⟨Nat.le_of_ble_eq_true rfl, Nat.le_of_ble_eq_true rfl⟩) hK hP rfl rfl rfl rfl hl.1 rfl (Nat.le_of_ble_eq_true rfl) dX0_portBreaks_77 ⟨Nat.zero_le _, Nat.zero_le _⟩ ?_
        refine bn_ne (tgt := 87) hx hb dX0_portBreaks_80 (by decide) (by omega) (fun c80 => ?_) (fun c80 => ?_)
        · refine lv_iconst (v := 0) hx hb dX0_portBreaks_87 (by decide) ?_
          exact rd_zret hx hb hr rfl (z1_f (by unfold xPB; simp [c7, c80] <;> omega)) dX0_portBreaks_88 hlocks
        · refine lv_iconst (v := 1) hx hb dX0_portBreaks_83 (by decide) ?_
          refine lv_goto (tgt := 88) hx hb dX0_portBreaks_84 (by decide) ?_
          exact rd_zret hx hb hr rfl (z1_t (by unfold xPB; simp [c7, c80] <;> omega)) dX0_portBreaks_88 hlocks
      · skip
        by_cases r7 : r0 = 7
        · subst r7
          refine lv_tableIn (off := 72) (tgt := 89) hx hb dX0_portBreaks_17 (by decide) (by decide) (by decide) (by decide) ?_
          refine lv_iload_n hx hb dX0_portBreaks_89 rfl (lv_at hl 0 rfl) ?_
          refine lv_if_eq (tgt := 106) hx hb dX0_portBreaks_90 (by decide) (fun c90 => absurd c90 (by decide)) (fun _ => ?_)
          refine lv_aload_n hx hb dX0_portBreaks_93 rfl (lv_at hl 1 rfl) ?_
          refine lv_iload_n hx hb dX0_portBreaks_94 rfl (lv_at hl 3 rfl) ?_
          refine rd_callV (As := [.int (nI q0)]) (rest := []) (b := a 0) (q0 := 0) (ci := 0) ⟨hx, hb, hml, hown, hts⟩ (cx_flatCountTo l G cA a V q0 h60 (by omega)) (cwV 1 hts gX0_portBreaks_X0_flatCountTo rfl rfl rfl (by decide +kernel) ⟨Nat.le_of_ble_eq_true rfl, Nat.le_of_ble_eq_true rfl⟩) hK hP rfl rfl rfl rfl hl.1 rfl (Nat.le_of_ble_eq_true rfl) dX0_portBreaks_95 ⟨Nat.zero_le _, Nat.zero_le _⟩ ?_
          refine lv_iconst (v := 1) hx hb dX0_portBreaks_98 (by decide) ?_
          refine bi_le (a := (((xTo V q0) : Nat) : Int)) (b := 1) (tgt := 106) hx hb dX0_portBreaks_99 (by decide) (nI_toInt (by omega)) (by decide) (fun c99 => ?_) (fun c99 => ?_)
          · refine lv_iconst (v := 0) hx hb dX0_portBreaks_106 (by decide) ?_
            exact rd_zret hx hb hr rfl (z1_f (by unfold xPB; simp [c7, c99] <;> omega)) dX0_portBreaks_107 hlocks
          · refine lv_iconst (v := 1) hx hb dX0_portBreaks_102 (by decide) ?_
            refine lv_goto (tgt := 107) hx hb dX0_portBreaks_103 (by decide) ?_
            exact rd_zret hx hb hr rfl (z1_t (by unfold xPB; simp [c7, c99] <;> omega)) dX0_portBreaks_107 hlocks
        · skip
          refine lv_tableOut (tgt := 108) hx hb dX0_portBreaks_17 (by rw [nI_toInt (by omega)]; omega) (by decide) ?_
          refine lv_aload_n hx hb dX0_portBreaks_108 rfl (lv_at hl 1 rfl) ?_
          refine va_get (D := G) (ci := 0) (v := .ref (a 6)) (C := RX0) (T := TX0) (N := 19) hx hb hts hfi hown hK hP 0 rfl rfl 6 (by decide) (hts (.fieldLink RX0 23 "PortRules" "kindOf" "[I") (by decide +kernel)) (fun _ h9 => h9) rfl dX0_portBreaks_109 ?_
          refine lv_iload_n hx hb dX0_portBreaks_112 rfl (lv_at hl 3 rfl) ?_
          refine rd_iald hx hb hK hP 5 0 rfl rfl (by omega) (by decide) dX0_portBreaks_113 ?_
          refine lv_iconst (v := 1) hx hb dX0_portBreaks_114 (by decide) ?_
          refine lv_icmp_ne (tgt := 131) hx hb dX0_portBreaks_115 (by decide) (fun c115 => ?_) (fun c115 => ?_)
          · refine lv_iconst (v := 0) hx hb dX0_portBreaks_131 (by decide) ?_
            exact rd_zret hx hb hr rfl (z1_f (by unfold xPB; simp [c115, c7, r5, r6, r7] <;> omega)) dX0_portBreaks_132 hlocks
          · refine lv_aload_n hx hb dX0_portBreaks_118 rfl (lv_at hl 1 rfl) ?_
            refine va_get (D := G) (ci := 0) (v := .ref (a 14)) (C := RX0) (T := TX0) (N := 19) hx hb hts hfi hown hK hP 0 rfl rfl 14 (by decide) (hts (.fieldLink RX0 48 "PortRules" "queueOf" "[I") (by decide +kernel)) (fun _ h9 => h9) rfl dX0_portBreaks_119 ?_
            refine lv_iload_n hx hb dX0_portBreaks_122 rfl (lv_at hl 3 rfl) ?_
            refine rd_iald hx hb hK hP 13 0 rfl rfl (by omega) (by decide) dX0_portBreaks_123 ?_
            refine lv_if_ne (tgt := 131) hx hb dX0_portBreaks_124 (by decide) (fun c124 => ?_) (fun c124 => ?_)
            · refine lv_iconst (v := 0) hx hb dX0_portBreaks_131 (by decide) ?_
              exact rd_zret hx hb hr rfl (z1_f (by unfold xPB; simp [c115, c124, c7, r5, r6, r7] <;> omega)) dX0_portBreaks_132 hlocks
            · refine lv_iconst (v := 1) hx hb dX0_portBreaks_127 (by decide) ?_
              refine lv_goto (tgt := 132) hx hb dX0_portBreaks_128 (by decide) ?_
              exact rd_zret hx hb hr rfl (z1_t (by unfold xPB; simp [c115, c124, c7, r5, r6, r7] <;> omega)) dX0_portBreaks_132 hlocks
set_option maxHeartbeats 4000000 in
set_option maxRecDepth 100000 in
theorem cx_firstBadPort (l : Launch) (G : va_G) (cA : Nat → ClassId) (a : Nat → Nat) (V : XV) (r0 : Nat) (h60 : xnq V ≤ 60) (hr0 : r0 ≤ 9) : Met l yX0_firstBadPort wsX0_firstBadPort { frames := 5, cells := 0, slots := 0, locals := 109 } (rd_Pc G vwC2 (tT cA) (xW cA a V) [.ref (a 0), .int (nI r0)]) (k2_QcV (.int (nI (xBP V r0)))) 0 0 (fun _ => False) := by
  refine Met.ofW (cc := cX0_firstBadPort) (maxL := 3) (ret := some .int) (by decide) rfl ?_
  intro p e s m args below meth c s₁ B hml hv
  obtain ⟨rfl, hP, hK⟩ := hv
  have hx := B.exec
  have hb := B.bytes
  have hr := B.returns
  have hts := atoms_spec (ws := wsX0_firstBadPort) B.pre
  have hown : s.vm.findClass RX0 = some m.cls := findClass_of_methodNamed B.named
  have hlocks := B.notSynchronized
  have hfi : ∀ w ∈ u_ws RX0 TX0 19, w ∈ wsX0_firstBadPort := by decide +kernel
  have hl := lv_entry ([.ref (a 0), .int (nI r0)]) (n := 3) (Nat.le_of_ble_eq_true rfl)
  rw [lg_entry_eq]
  generalize (lg_sl ([.ref (a 0), .int (nI r0)]) ++ List.replicate (3 - (lg_sl ([.ref (a 0), .int (nI r0)])).length) Slot.unset).toArray = ls at hl ⊢
  have hl : lv_has ls 3 [(0, .ref (a 0)), (1, .int (nI r0))] := hl
  refine lv_iconst (v := nI 1) hx hb dX0_firstBadPort_0 (by decide) ?_
  refine lv_istore_n (lv' := [(2, .int (nI 1)), (0, .ref (a 0)), (1, .int (nI r0))]) hx hb dX0_firstBadPort_1 rfl hl (by decide) rfl (fun ls hl => ?_)
  refine rd_loop (fun k ls => ∃ i : Nat, 1 ≤ i ∧ i + k = xnq V + 1 ∧ pu_fst (fun q0 => lb (xar V) q0 && xPB V r0 q0) k i = xBP V r0 ∧ lv_has ls 3 [(2, .int (nI i)), (0, .ref (a 0)), (1, .int (nI r0))]) ?_ (xnq V) ls ⟨1, by omega, by omega, rfl, (lv_sub hl [0, 1, 2] rfl)⟩
  intro k2 ls ⟨i, hi, hk, hR, hl⟩ ih2
  refine lv_iload_n hx hb dX0_firstBadPort_2 rfl (lv_at hl 0 rfl) ?_
  refine lv_aload_n hx hb dX0_firstBadPort_3 rfl (lv_at hl 1 rfl) ?_
  refine va_get (D := G) (ci := 0) (v := .int (nI (xnq V))) (C := RX0) (T := TX0) (N := 19) hx hb hts hfi hown hK hP 0 rfl rfl 4 (by decide) (hts (.fieldLink RX0 75 "PortRules" "portCount" "I") (by decide +kernel)) (fun _ h9 => h9) rfl dX0_firstBadPort_4 ?_
  refine nb_gt (tgt := 38) hx hb dX0_firstBadPort_7 (by decide) (by omega) (by omega) (fun c7 => ?_) (fun c7 => ?_)
  · refine lv_iconst (v := nI 0) hx hb dX0_firstBadPort_38 (by decide) ?_
    exact rd_iret hx hb hr (by rw [← hR, show k2 = 0 by omega]; rfl) dX0_firstBadPort_39 hlocks
  · obtain ⟨k2, rfl⟩ : ∃ z, k2 = z + 1 := ⟨k2 - 1, by omega⟩
    refine lv_aload_n hx hb dX0_firstBadPort_10 rfl (lv_at hl 1 rfl) ?_
    refine va_get (D := G) (ci := 0) (v := .long (xar V)) (C := RX0) (T := TX0) (N := 19) hx hb hts hfi hown hK hP 0 rfl rfl 18 (by decide) (hts (.fieldLink RX0 134 "PortRules" "atomicRequired" "J") (by decide +kernel)) (fun _ h9 => h9) rfl dX0_firstBadPort_11 ?_
    refine lv_iload_n hx hb dX0_firstBadPort_14 rfl (lv_at hl 0 rfl) ?_
    refine rd_callS (As := [.long (xar V), .int (nI i)]) (rest := []) ⟨hx, hb, hml, hown, hts⟩ (cx_holds l (xar V) i (by omega)) (va_cwS 2 hts gX0_firstBadPort_X0_holds rfl rfl rfl (by decide +kernel) ⟨Nat.le_of_ble_eq_true rfl, Nat.le_of_ble_eq_true rfl⟩) rfl hl.1 rfl (Nat.le_of_ble_eq_true rfl) dX0_firstBadPort_15 ⟨Nat.zero_le _, Nat.zero_le _⟩ ?_
    refine bb_eq (tgt := 32) hx hb dX0_firstBadPort_18 (by decide) (fun c18 => ?_) (fun c18 => ?_)
    · refine lv_iinc (v := nI (i + 1)) (lv' := [(2, .int (nI (i + 1))), (0, .ref (a 0)), (1, .int (nI r0))]) hx hb dX0_firstBadPort_32 hl (k := 0) rfl (ni_inc _) (by decide) rfl (fun ls hl => ?_)
      refine lv_goto (tgt := 2) hx hb dX0_firstBadPort_35 (by decide) ?_
      exact ih2 k2 ls (by omega) ⟨i + 1, by omega, by omega, (pu_fst_f (P := (fun q0 => lb (xar V) q0 && xPB V r0 q0)) (by simp [c18])).symm.trans hR, (lv_sub hl [0, 1, 2] rfl)⟩
    · refine lv_aload_n hx hb dX0_firstBadPort_21 rfl (lv_at hl 1 rfl) ?_
      refine lv_iload_n hx hb dX0_firstBadPort_22 rfl (lv_at hl 2 rfl) ?_
      refine lv_iload_n hx hb dX0_firstBadPort_23 rfl (lv_at hl 0 rfl) ?_
      refine rd_callV (As := [.int (nI r0), .int (nI i)]) (rest := []) (b := a 0) (q0 := 0) (ci := 0) ⟨hx, hb, hml, hown, hts⟩ (cx_portBreaks l G cA a V r0 i h60 (by omega) (by omega)) (cwV 2 hts gX0_firstBadPort_X0_portBreaks rfl rfl rfl (by decide +kernel) ⟨Nat.le_of_ble_eq_true rfl, Nat.le_of_ble_eq_true rfl⟩) hK hP rfl rfl rfl rfl hl.1 rfl (Nat.le_of_ble_eq_true rfl) dX0_firstBadPort_24 ⟨Nat.zero_le _, Nat.zero_le _⟩ ?_
      refine bb_eq (tgt := 32) hx hb dX0_firstBadPort_27 (by decide) (fun c27 => ?_) (fun c27 => ?_)
      · refine lv_iinc (v := nI (i + 1)) (lv' := [(2, .int (nI (i + 1))), (0, .ref (a 0)), (1, .int (nI r0))]) hx hb dX0_firstBadPort_32 hl (k := 0) rfl (ni_inc _) (by decide) rfl (fun ls hl => ?_)
        refine lv_goto (tgt := 2) hx hb dX0_firstBadPort_35 (by decide) ?_
        exact ih2 k2 ls (by omega) ⟨i + 1, by omega, by omega, (pu_fst_f (P := (fun q0 => lb (xar V) q0 && xPB V r0 q0)) (by simp [c18, c27])).symm.trans hR, (lv_sub hl [0, 1, 2] rfl)⟩
      · refine lv_iload_n hx hb dX0_firstBadPort_30 rfl (lv_at hl 0 rfl) ?_
        exact rd_iret hx hb hr (by rw [← hR, pu_fst_t (P := (fun q0 => lb (xar V) q0 && xPB V r0 q0)) (by simp [c18, c27])]) dX0_firstBadPort_31 hlocks
set_option maxHeartbeats 4000000 in
set_option maxRecDepth 100000 in
theorem cx_isExactScaling (l : Launch) (G : va_G) (cA : Nat → ClassId) (a : Nat → Nat) (V : XV) (p0 q0 : Nat) (hp : p0 ≤ 60) (hq : q0 ≤ 60) : Met l yX0_isExactScaling wsX0_isExactScaling { frames := 0, cells := 0, slots := 0, locals := 0 } (rd_Pc G vwC2 (tT cA) (xW cA a V) [.ref (a 0), .int (nI p0), .int (nI q0)]) (k2_QcV (.int (z1 (xEx V p0 q0)))) 0 0 (fun _ => False) := by
  refine Met.ofW (cc := cX0_isExactScaling) (maxL := 5) (ret := some .boolean) (by decide) rfl ?_
  intro p e s m args below meth c s₁ B hml hv
  obtain ⟨rfl, hP, hK⟩ := hv
  have hx := B.exec
  have hb := B.bytes
  have hr := B.returns
  have hts := atoms_spec (ws := wsX0_isExactScaling) B.pre
  have hown : s.vm.findClass RX0 = some m.cls := findClass_of_methodNamed B.named
  have hlocks := B.notSynchronized
  have hfi : ∀ w ∈ u_ws RX0 TX0 19, w ∈ wsX0_isExactScaling := by decide +kernel
  have hl := lv_entry ([.ref (a 0), .int (nI p0), .int (nI q0)]) (n := 5) (Nat.le_of_ble_eq_true rfl)
  rw [lg_entry_eq]
  generalize (lg_sl ([.ref (a 0), .int (nI p0), .int (nI q0)]) ++ List.replicate (5 - (lg_sl ([.ref (a 0), .int (nI p0), .int (nI q0)])).length) Slot.unset).toArray = ls at hl ⊢
  have hl : lv_has ls 5 [(0, .ref (a 0)), (1, .int (nI p0)), (2, .int (nI q0))] := hl
  refine lv_aload_n hx hb dX0_isExactScaling_0 rfl (lv_at hl 0 rfl) ?_
  refine va_get (D := G) (ci := 0) (v := .ref (a 10)) (C := RX0) (T := TX0) (N := 19) hx hb hts hfi hown hK hP 0 rfl rfl 10 (by decide) (hts (.fieldLink RX0 36 "PortRules" "downOf" "[J") (by decide +kernel)) (fun _ h9 => h9) rfl dX0_isExactScaling_1 ?_
  refine lv_iload_n hx hb dX0_isExactScaling_4 rfl (lv_at hl 1 rfl) ?_
  refine rd_lald hx hb hK hP 9 2 rfl rfl (by omega) (by decide) dX0_isExactScaling_5 ?_
  refine lv_aload_n hx hb dX0_isExactScaling_6 rfl (lv_at hl 0 rfl) ?_
  refine va_get (D := G) (ci := 0) (v := .ref (a 9)) (C := RX0) (T := TX0) (N := 19) hx hb hts hfi hown hK hP 0 rfl rfl 9 (by decide) (hts (.fieldLink RX0 32 "PortRules" "upOf" "[J") (by decide +kernel)) (fun _ h9 => h9) rfl dX0_isExactScaling_7 ?_
  refine lv_iload_n hx hb dX0_isExactScaling_10 rfl (lv_at hl 2 rfl) ?_
  refine rd_lald hx hb hK hP 8 2 rfl rfl (by omega) (by decide) dX0_isExactScaling_11 ?_
  refine lv_lmul hx hb dX0_isExactScaling_12 ?_
  refine lv_lstore_n (lv' := [(3, .long ((xg V 10 p0) * (xg V 9 q0))), (0, .ref (a 0)), (1, .int (nI p0)), (2, .int (nI q0))]) hx hb dX0_isExactScaling_13 rfl hl (by decide) rfl (fun ls hl => ?_)
  refine lv_lload_n hx hb dX0_isExactScaling_14 rfl (lv_at hl 0 rfl) ?_
  refine lv_lconst (v := 0) hx hb dX0_isExactScaling_15 (by decide) ?_
  refine bl_eq (tgt := 44) hx hb dX0_isExactScaling_16 dX0_isExactScaling_17 (by decide) (fun c17 => ?_) (fun c17 => ?_)
  · refine lv_iconst (v := 0) hx hb dX0_isExactScaling_44 (by decide) ?_
    exact rd_zret hx hb hr rfl (z1_f (by unfold xEx lrm; simp [c17])) dX0_isExactScaling_45 hlocks
  · refine lv_aload_n hx hb dX0_isExactScaling_20 rfl (lv_at hl 1 rfl) ?_
    refine va_get (D := G) (ci := 0) (v := .ref (a 9)) (C := RX0) (T := TX0) (N := 19) hx hb hts hfi hown hK hP 0 rfl rfl 9 (by decide) (hts (.fieldLink RX0 32 "PortRules" "upOf" "[J") (by decide +kernel)) (fun _ h9 => h9) rfl dX0_isExactScaling_21 ?_
    refine lv_iload_n hx hb dX0_isExactScaling_24 rfl (lv_at hl 2 rfl) ?_
    refine rd_lald hx hb hK hP 8 2 rfl rfl (by omega) (by decide) dX0_isExactScaling_25 ?_
    refine lv_aload_n hx hb dX0_isExactScaling_26 rfl (lv_at hl 1 rfl) ?_
    refine va_get (D := G) (ci := 0) (v := .ref (a 10)) (C := RX0) (T := TX0) (N := 19) hx hb hts hfi hown hK hP 0 rfl rfl 10 (by decide) (hts (.fieldLink RX0 36 "PortRules" "downOf" "[J") (by decide +kernel)) (fun _ h9 => h9) rfl dX0_isExactScaling_27 ?_
    refine lv_iload_n hx hb dX0_isExactScaling_30 rfl (lv_at hl 3 rfl) ?_
    refine rd_lald hx hb hK hP 9 2 rfl rfl (by omega) (by decide) dX0_isExactScaling_31 ?_
    refine lv_lmul hx hb dX0_isExactScaling_32 ?_
    refine lv_lload_n hx hb dX0_isExactScaling_33 rfl (lv_at hl 0 rfl) ?_
    refine lv_lrem hx hb dX0_isExactScaling_34 (c17) ?_
    refine lv_lconst (v := 0) hx hb dX0_isExactScaling_35 (by decide) ?_
    refine bl_ne (tgt := 44) hx hb dX0_isExactScaling_36 dX0_isExactScaling_37 (by decide) (fun c37 => ?_) (fun c37 => ?_)
    · refine lv_iconst (v := 0) hx hb dX0_isExactScaling_44 (by decide) ?_
      exact rd_zret hx hb hr rfl (z1_f (by unfold xEx lrm; simp [c17, c37])) dX0_isExactScaling_45 hlocks
    · refine lv_iconst (v := 1) hx hb dX0_isExactScaling_40 (by decide) ?_
      refine lv_goto (tgt := 45) hx hb dX0_isExactScaling_41 (by decide) ?_
      exact rd_zret hx hb hr rfl (z1_t (by unfold xEx lrm; simp [c17, c37])) dX0_isExactScaling_45 hlocks
set_option maxHeartbeats 4000000 in
set_option maxRecDepth 100000 in
theorem cx_servesVersion (l : Launch) (G : va_G) (cA : Nat → ClassId) (a : Nat → Nat) (V : XV) (p0 q0 : Nat) (hp : p0 ≤ 60) (hq : q0 ≤ 60) : Met l yX0_servesVersion wsX0_servesVersion { frames := 0, cells := 0, slots := 0, locals := 0 } (rd_Pc G vwC2 (tT cA) (xW cA a V) [.ref (a 0), .int (nI p0), .int (nI q0)]) (k2_QcV (.int (z1 (xSv V p0 q0)))) 0 0 (fun _ => False) := by
  refine Met.ofW (cc := cX0_servesVersion) (maxL := 5) (ret := some .boolean) (by decide) rfl ?_
  intro p e s m args below meth c s₁ B hml hv
  obtain ⟨rfl, hP, hK⟩ := hv
  have hx := B.exec
  have hb := B.bytes
  have hr := B.returns
  have hts := atoms_spec (ws := wsX0_servesVersion) B.pre
  have hown : s.vm.findClass RX0 = some m.cls := findClass_of_methodNamed B.named
  have hlocks := B.notSynchronized
  have hfi : ∀ w ∈ u_ws RX0 TX0 19, w ∈ wsX0_servesVersion := by decide +kernel
  have hl := lv_entry ([.ref (a 0), .int (nI p0), .int (nI q0)]) (n := 5) (Nat.le_of_ble_eq_true rfl)
  rw [lg_entry_eq]
  generalize (lg_sl ([.ref (a 0), .int (nI p0), .int (nI q0)]) ++ List.replicate (5 - (lg_sl ([.ref (a 0), .int (nI p0), .int (nI q0)])).length) Slot.unset).toArray = ls at hl ⊢
  have hl : lv_has ls 5 [(0, .ref (a 0)), (1, .int (nI p0)), (2, .int (nI q0))] := hl
  refine lv_aload_n hx hb dX0_servesVersion_0 rfl (lv_at hl 0 rfl) ?_
  refine va_get (D := G) (ci := 0) (v := .ref (a 11)) (C := RX0) (T := TX0) (N := 19) hx hb hts hfi hown hK hP 0 rfl rfl 11 (by decide) (hts (.fieldLink RX0 39 "PortRules" "versionOf" "[I") (by decide +kernel)) (fun _ h9 => h9) rfl dX0_servesVersion_1 ?_
  refine lv_iload_n hx hb dX0_servesVersion_4 rfl (lv_at hl 1 rfl) ?_
  refine rd_iald hx hb hK hP 10 0 rfl rfl (by omega) (by decide) dX0_servesVersion_5 ?_
  refine lv_istore_n (lv' := [(3, .int (xf V 11 p0)), (0, .ref (a 0)), (1, .int (nI p0)), (2, .int (nI q0))]) hx hb dX0_servesVersion_6 rfl hl (by decide) rfl (fun ls hl => ?_)
  refine lv_aload_n hx hb dX0_servesVersion_7 rfl (lv_at hl 1 rfl) ?_
  refine va_get (D := G) (ci := 0) (v := .ref (a 11)) (C := RX0) (T := TX0) (N := 19) hx hb hts hfi hown hK hP 0 rfl rfl 11 (by decide) (hts (.fieldLink RX0 39 "PortRules" "versionOf" "[I") (by decide +kernel)) (fun _ h9 => h9) rfl dX0_servesVersion_8 ?_
  refine lv_iload_n hx hb dX0_servesVersion_11 rfl (lv_at hl 3 rfl) ?_
  refine rd_iald hx hb hK hP 10 0 rfl rfl (by omega) (by decide) dX0_servesVersion_12 ?_
  refine lv_istore (lv' := [(4, .int (xf V 11 q0)), (3, .int (xf V 11 p0)), (0, .ref (a 0)), (1, .int (nI p0)), (2, .int (nI q0))]) hx hb dX0_servesVersion_13 hl (by decide) rfl (fun ls hl => ?_)
  refine lv_iload_n hx hb dX0_servesVersion_15 rfl (lv_at hl 1 rfl) ?_
  refine lv_iload hx hb dX0_servesVersion_16 (lv_at hl 0 rfl) ?_
  refine bi_lt (a := (xf V 11 p0).toInt) (b := (xf V 11 q0).toInt) (tgt := 37) hx hb dX0_servesVersion_18 (by decide) rfl rfl (fun c18 => ?_) (fun c18 => ?_)
  · refine lv_iconst (v := 0) hx hb dX0_servesVersion_37 (by decide) ?_
    exact rd_zret hx hb hr rfl (z1_f (by unfold xSv; simp [c18] <;> omega)) dX0_servesVersion_38 hlocks
  · refine lv_iload_n hx hb dX0_servesVersion_21 rfl (lv_at hl 1 rfl) ?_
    refine lv_bipush (v := 100) hx hb dX0_servesVersion_22 (by decide) ?_
    refine lv_idiv hx hb dX0_servesVersion_24 (by decide) ?_
    refine lv_iload hx hb dX0_servesVersion_25 (lv_at hl 0 rfl) ?_
    refine lv_bipush (v := 100) hx hb dX0_servesVersion_27 (by decide) ?_
    refine lv_idiv hx hb dX0_servesVersion_29 (by decide) ?_
    refine lv_icmp_ne (tgt := 37) hx hb dX0_servesVersion_30 (by decide) (fun c30 => ?_) (fun c30 => ?_)
    · refine lv_iconst (v := 0) hx hb dX0_servesVersion_37 (by decide) ?_
      exact rd_zret hx hb hr rfl (z1_f (by unfold xSv; simp [c18, c30] <;> omega)) dX0_servesVersion_38 hlocks
    · refine lv_iconst (v := 1) hx hb dX0_servesVersion_33 (by decide) ?_
      refine lv_goto (tgt := 38) hx hb dX0_servesVersion_34 (by decide) ?_
      exact rd_zret hx hb hr rfl (z1_t (by unfold xSv; simp [c18, c30] <;> omega)) dX0_servesVersion_38 hlocks
set_option maxHeartbeats 4000000 in
set_option maxRecDepth 100000 in
theorem cx_managesMode (l : Launch) (G : va_G) (cA : Nat → ClassId) (a : Nat → Nat) (V : XV) (x : Int32)  : Met l yX0_managesMode wsX0_managesMode { frames := 0, cells := 0, slots := 0, locals := 0 } (rd_Pc G vwC2 (tT cA) (xW cA a V) [.ref (a 0), .int x]) (k2_QcV (.int (z1 (xMg V x)))) 0 0 (fun _ => False) := by
  refine Met.ofW (cc := cX0_managesMode) (maxL := 3) (ret := some .boolean) (by decide) rfl ?_
  intro p e s m args below meth c s₁ B hml hv
  obtain ⟨rfl, hP, hK⟩ := hv
  have hx := B.exec
  have hb := B.bytes
  have hr := B.returns
  have hts := atoms_spec (ws := wsX0_managesMode) B.pre
  have hown : s.vm.findClass RX0 = some m.cls := findClass_of_methodNamed B.named
  have hlocks := B.notSynchronized
  have hfi : ∀ w ∈ u_ws RX0 TX0 19, w ∈ wsX0_managesMode := by decide +kernel
  have hl := lv_entry ([.ref (a 0), .int x]) (n := 3) (Nat.le_of_ble_eq_true rfl)
  rw [lg_entry_eq]
  generalize (lg_sl ([.ref (a 0), .int x]) ++ List.replicate (3 - (lg_sl ([.ref (a 0), .int x])).length) Slot.unset).toArray = ls at hl ⊢
  have hl : lv_has ls 3 [(0, .ref (a 0)), (1, .int x)] := hl
  refine lv_iconst (v := nI 0) hx hb dX0_managesMode_0 (by decide) ?_
  refine lv_istore_n (lv' := [(2, .int (nI 0)), (0, .ref (a 0)), (1, .int x)]) hx hb dX0_managesMode_1 rfl hl (by decide) rfl (fun ls hl => ?_)
  refine rd_loop (fun k ls => ∃ i : Nat, i + k = 10 ∧ pu_any (fun k0 => decide (xf V 3 k0 = x)) k i = xMg V x ∧ lv_has ls 3 [(2, .int (nI i)), (0, .ref (a 0)), (1, .int x)]) ?_ 10 ls ⟨0, by omega, rfl, (lv_sub hl [0, 1, 2] rfl)⟩
  intro k2 ls ⟨i, hk, hR, hl⟩ ih2
  refine lv_iload_n hx hb dX0_managesMode_2 rfl (lv_at hl 0 rfl) ?_
  refine lv_bipush (v := nI 10) hx hb dX0_managesMode_3 (by decide) ?_
  refine nb_ge (tgt := 26) hx hb dX0_managesMode_5 (by decide) (by omega) (by omega) (fun c5 => ?_) (fun c5 => ?_)
  · refine lv_iconst (v := 0) hx hb dX0_managesMode_26 (by decide) ?_
    exact rd_zret hx hb hr rfl (z1_f (hR.symm.trans (by rw [show k2 = 0 by omega]; rfl))) dX0_managesMode_27 hlocks
  · obtain ⟨k2, rfl⟩ : ∃ z, k2 = z + 1 := ⟨k2 - 1, by omega⟩
    refine lv_aload_n hx hb dX0_managesMode_8 rfl (lv_at hl 1 rfl) ?_
    refine va_get (D := G) (ci := 0) (v := .ref (a 3)) (C := RX0) (T := TX0) (N := 19) hx hb hts hfi hown hK hP 0 rfl rfl 3 (by decide) (hts (.fieldLink RX0 17 "PortRules" "managerOf" "[I") (by decide +kernel)) (fun _ h9 => h9) rfl dX0_managesMode_9 ?_
    refine lv_iload_n hx hb dX0_managesMode_12 rfl (lv_at hl 0 rfl) ?_
    refine rd_iald hx hb hK hP 3 0 rfl rfl (by omega) (by decide) dX0_managesMode_13 ?_
    refine lv_iload_n hx hb dX0_managesMode_14 rfl (lv_at hl 2 rfl) ?_
    refine lv_icmp_ne (tgt := 20) hx hb dX0_managesMode_15 (by decide) (fun c15 => ?_) (fun c15 => ?_)
    · refine lv_iinc (v := nI (i + 1)) (lv' := [(2, .int (nI (i + 1))), (0, .ref (a 0)), (1, .int x)]) hx hb dX0_managesMode_20 hl (k := 0) rfl (ni_inc _) (by decide) rfl (fun ls hl => ?_)
      refine lv_goto (tgt := 2) hx hb dX0_managesMode_23 (by decide) ?_
      exact ih2 k2 ls (by omega) ⟨i + 1, by omega, (show pu_any (fun k0 => decide (xf V 3 k0 = x)) (k2 + 1) i = _ by simp [pu_any, c15]).symm.trans hR, (lv_sub hl [0, 1, 2] rfl)⟩
    · refine lv_iconst (v := 1) hx hb dX0_managesMode_18 (by decide) ?_
      exact rd_zret hx hb hr rfl (z1_t (hR.symm.trans (by simp [pu_any, c15]))) dX0_managesMode_19 hlocks
set_option maxHeartbeats 4000000 in
set_option maxRecDepth 100000 in
theorem cx_connectorBreaks (l : Launch) (G : va_G) (cA : Nat → ClassId) (a : Nat → Nat) (V : XV) (r0 p0 q0 : Nat) (h60 : xnq V ≤ 60) (hr0 : r0 ≤ 9) (hp : p0 ≤ 60) (hq : q0 ≤ 60) : Met l yX0_connectorBreaks wsX0_connectorBreaks { frames := 1, cells := 0, slots := 0, locals := 24 } (rd_Pc G vwC2 (tT cA) (xW cA a V) [.ref (a 0), .int (nI r0), .int (nI p0), .int (nI q0)]) (k2_QcV (.int (z1 (xCB V r0 p0 q0)))) 0 0 (fun _ => False) := by
  refine Met.ofW (cc := cX0_connectorBreaks) (maxL := 4) (ret := some .boolean) (by decide) rfl ?_
  intro p e s m args below meth c s₁ B hml hv
  obtain ⟨rfl, hP, hK⟩ := hv
  have hx := B.exec
  have hb := B.bytes
  have hr := B.returns
  have hts := atoms_spec (ws := wsX0_connectorBreaks) B.pre
  have hown : s.vm.findClass RX0 = some m.cls := findClass_of_methodNamed B.named
  have hlocks := B.notSynchronized
  have hfi : ∀ w ∈ u_ws RX0 TX0 19, w ∈ wsX0_connectorBreaks := by decide +kernel
  have hl := lv_entry ([.ref (a 0), .int (nI r0), .int (nI p0), .int (nI q0)]) (n := 4) (Nat.le_of_ble_eq_true rfl)
  rw [lg_entry_eq]
  generalize (lg_sl ([.ref (a 0), .int (nI r0), .int (nI p0), .int (nI q0)]) ++ List.replicate (4 - (lg_sl ([.ref (a 0), .int (nI r0), .int (nI p0), .int (nI q0)])).length) Slot.unset).toArray = ls at hl ⊢
  have hl : lv_has ls 4 [(0, .ref (a 0)), (1, .int (nI r0)), (2, .int (nI p0)), (3, .int (nI q0))] := hl
  have hr9 : r0 < 2 ^ 31 := by omega
  refine lv_iload_n hx hb dX0_connectorBreaks_0 rfl (lv_at hl 1 rfl) ?_
  by_cases r1 : r0 = 1
  · subst r1
    refine lv_tableIn (off := 31) (tgt := 32) hx hb dX0_connectorBreaks_1 (by decide) (by decide) (by decide) (by decide) ?_
    refine lv_aload_n hx hb dX0_connectorBreaks_32 rfl (lv_at hl 0 rfl) ?_
    refine va_get (D := G) (ci := 0) (v := .ref (a 8)) (C := RX0) (T := TX0) (N := 19) hx hb hts hfi hown hK hP 0 rfl rfl 8 (by decide) (hts (.fieldLink RX0 29 "PortRules" "unitOf" "[I") (by decide +kernel)) (fun _ h9 => h9) rfl dX0_connectorBreaks_33 ?_
    refine lv_iload_n hx hb dX0_connectorBreaks_36 rfl (lv_at hl 2 rfl) ?_
    refine rd_iald hx hb hK hP 7 0 rfl rfl (by omega) (by decide) dX0_connectorBreaks_37 ?_
    refine lv_iconst (v := -1) hx hb dX0_connectorBreaks_38 (by decide) ?_
    refine lv_icmp_ne (tgt := 46) hx hb dX0_connectorBreaks_39 (by decide) (fun c39 => ?_) (fun c39 => ?_)
    · refine lv_iconst (v := 0) hx hb dX0_connectorBreaks_46 (by decide) ?_
      refine lv_aload_n hx hb dX0_connectorBreaks_47 rfl (lv_at hl 0 rfl) ?_
      refine va_get (D := G) (ci := 0) (v := .ref (a 8)) (C := RX0) (T := TX0) (N := 19) hx hb hts hfi hown hK hP 0 rfl rfl 8 (by decide) (hts (.fieldLink RX0 29 "PortRules" "unitOf" "[I") (by decide +kernel)) (fun _ h9 => h9) rfl dX0_connectorBreaks_48 ?_
      refine lv_iload_n hx hb dX0_connectorBreaks_51 rfl (lv_at hl 3 rfl) ?_
      refine rd_iald hx hb hK hP 7 0 rfl rfl (by omega) (by decide) dX0_connectorBreaks_52 ?_
      refine lv_iconst (v := -1) hx hb dX0_connectorBreaks_53 (by decide) ?_
      refine lv_icmp_ne (tgt := 61) hx hb dX0_connectorBreaks_54 (by decide) (fun c54 => ?_) (fun c54 => ?_)
      · refine lv_iconst (v := 0) hx hb dX0_connectorBreaks_61 (by decide) ?_
        refine lv_icmp_eq (tgt := 69) hx hb dX0_connectorBreaks_62 (by decide) (fun _ => ?_) (fun c62 => absurd c62 (by decide))
        refine lv_iconst (v := 0) hx hb dX0_connectorBreaks_69 (by decide) ?_
        exact rd_zret hx hb hr rfl (z1_f (by unfold xCB; simp [c39, c54])) dX0_connectorBreaks_70 hlocks
      · refine lv_iconst (v := 1) hx hb dX0_connectorBreaks_57 (by decide) ?_
        refine lv_goto (tgt := 62) hx hb dX0_connectorBreaks_58 (by decide) ?_
        refine lv_icmp_eq (tgt := 69) hx hb dX0_connectorBreaks_62 (by decide) (fun c62 => absurd c62 (by decide)) (fun _ => ?_)
        refine lv_iconst (v := 1) hx hb dX0_connectorBreaks_65 (by decide) ?_
        refine lv_goto (tgt := 70) hx hb dX0_connectorBreaks_66 (by decide) ?_
        exact rd_zret hx hb hr rfl (z1_t (by unfold xCB; simp [c39, c54])) dX0_connectorBreaks_70 hlocks
    · refine lv_iconst (v := 1) hx hb dX0_connectorBreaks_42 (by decide) ?_
      refine lv_goto (tgt := 47) hx hb dX0_connectorBreaks_43 (by decide) ?_
      refine lv_aload_n hx hb dX0_connectorBreaks_47 rfl (lv_at hl 0 rfl) ?_
      refine va_get (D := G) (ci := 0) (v := .ref (a 8)) (C := RX0) (T := TX0) (N := 19) hx hb hts hfi hown hK hP 0 rfl rfl 8 (by decide) (hts (.fieldLink RX0 29 "PortRules" "unitOf" "[I") (by decide +kernel)) (fun _ h9 => h9) rfl dX0_connectorBreaks_48 ?_
      refine lv_iload_n hx hb dX0_connectorBreaks_51 rfl (lv_at hl 3 rfl) ?_
      refine rd_iald hx hb hK hP 7 0 rfl rfl (by omega) (by decide) dX0_connectorBreaks_52 ?_
      refine lv_iconst (v := -1) hx hb dX0_connectorBreaks_53 (by decide) ?_
      refine lv_icmp_ne (tgt := 61) hx hb dX0_connectorBreaks_54 (by decide) (fun c54 => ?_) (fun c54 => ?_)
      · refine lv_iconst (v := 0) hx hb dX0_connectorBreaks_61 (by decide) ?_
        refine lv_icmp_eq (tgt := 69) hx hb dX0_connectorBreaks_62 (by decide) (fun c62 => absurd c62 (by decide)) (fun _ => ?_)
        refine lv_iconst (v := 1) hx hb dX0_connectorBreaks_65 (by decide) ?_
        refine lv_goto (tgt := 70) hx hb dX0_connectorBreaks_66 (by decide) ?_
        exact rd_zret hx hb hr rfl (z1_t (by unfold xCB; simp [c39, c54])) dX0_connectorBreaks_70 hlocks
      · refine lv_iconst (v := 1) hx hb dX0_connectorBreaks_57 (by decide) ?_
        refine lv_goto (tgt := 62) hx hb dX0_connectorBreaks_58 (by decide) ?_
        refine lv_icmp_eq (tgt := 69) hx hb dX0_connectorBreaks_62 (by decide) (fun _ => ?_) (fun c62 => absurd c62 (by decide))
        refine lv_iconst (v := 0) hx hb dX0_connectorBreaks_69 (by decide) ?_
        exact rd_zret hx hb hr rfl (z1_f (by unfold xCB; simp [c39, c54])) dX0_connectorBreaks_70 hlocks
  · skip
    by_cases r2 : r0 = 2
    · subst r2
      refine lv_tableIn (off := 70) (tgt := 71) hx hb dX0_connectorBreaks_1 (by decide) (by decide) (by decide) (by decide) ?_
      refine lv_aload_n hx hb dX0_connectorBreaks_71 rfl (lv_at hl 0 rfl) ?_
      refine va_get (D := G) (ci := 0) (v := .ref (a 8)) (C := RX0) (T := TX0) (N := 19) hx hb hts hfi hown hK hP 0 rfl rfl 8 (by decide) (hts (.fieldLink RX0 29 "PortRules" "unitOf" "[I") (by decide +kernel)) (fun _ h9 => h9) rfl dX0_connectorBreaks_72 ?_
      refine lv_iload_n hx hb dX0_connectorBreaks_75 rfl (lv_at hl 2 rfl) ?_
      refine rd_iald hx hb hK hP 7 0 rfl rfl (by omega) (by decide) dX0_connectorBreaks_76 ?_
      refine lv_aload_n hx hb dX0_connectorBreaks_77 rfl (lv_at hl 0 rfl) ?_
      refine va_get (D := G) (ci := 0) (v := .ref (a 8)) (C := RX0) (T := TX0) (N := 19) hx hb hts hfi hown hK hP 0 rfl rfl 8 (by decide) (hts (.fieldLink RX0 29 "PortRules" "unitOf" "[I") (by decide +kernel)) (fun _ h9 => h9) rfl dX0_connectorBreaks_78 ?_
      refine lv_iload_n hx hb dX0_connectorBreaks_81 rfl (lv_at hl 3 rfl) ?_
      refine rd_iald hx hb hK hP 7 0 rfl rfl (by omega) (by decide) dX0_connectorBreaks_82 ?_
      refine lv_icmp_eq (tgt := 90) hx hb dX0_connectorBreaks_83 (by decide) (fun c83 => ?_) (fun c83 => ?_)
      · refine lv_iconst (v := 0) hx hb dX0_connectorBreaks_90 (by decide) ?_
        exact rd_zret hx hb hr rfl (z1_f (by unfold xCB; simp [c83])) dX0_connectorBreaks_91 hlocks
      · refine lv_iconst (v := 1) hx hb dX0_connectorBreaks_86 (by decide) ?_
        refine lv_goto (tgt := 91) hx hb dX0_connectorBreaks_87 (by decide) ?_
        exact rd_zret hx hb hr rfl (z1_t (by unfold xCB; simp [c83])) dX0_connectorBreaks_91 hlocks
    · skip
      by_cases r3 : r0 = 3
      · subst r3
        refine lv_tableIn (off := 91) (tgt := 92) hx hb dX0_connectorBreaks_1 (by decide) (by decide) (by decide) (by decide) ?_
        refine lv_aload_n hx hb dX0_connectorBreaks_92 rfl (lv_at hl 0 rfl) ?_
        refine va_get (D := G) (ci := 0) (v := .ref (a 8)) (C := RX0) (T := TX0) (N := 19) hx hb hts hfi hown hK hP 0 rfl rfl 8 (by decide) (hts (.fieldLink RX0 29 "PortRules" "unitOf" "[I") (by decide +kernel)) (fun _ h9 => h9) rfl dX0_connectorBreaks_93 ?_
        refine lv_iload_n hx hb dX0_connectorBreaks_96 rfl (lv_at hl 2 rfl) ?_
        refine rd_iald hx hb hK hP 7 0 rfl rfl (by omega) (by decide) dX0_connectorBreaks_97 ?_
        refine lv_iconst (v := -1) hx hb dX0_connectorBreaks_98 (by decide) ?_
        refine lv_icmp_eq (tgt := 115) hx hb dX0_connectorBreaks_99 (by decide) (fun c99 => ?_) (fun c99 => ?_)
        · refine lv_iconst (v := 0) hx hb dX0_connectorBreaks_115 (by decide) ?_
          exact rd_zret hx hb hr rfl (z1_f (by unfold xCB; simp [c99])) dX0_connectorBreaks_116 hlocks
        · refine lv_aload_n hx hb dX0_connectorBreaks_102 rfl (lv_at hl 0 rfl) ?_
          refine lv_iload_n hx hb dX0_connectorBreaks_103 rfl (lv_at hl 2 rfl) ?_
          refine lv_iload_n hx hb dX0_connectorBreaks_104 rfl (lv_at hl 3 rfl) ?_
          refine rd_callV (As := [.int (nI p0), .int (nI q0)]) (rest := []) (b := a 0) (q0 := 0) (ci := 0) ⟨hx, hb, hml, hown, hts⟩ (cx_isExactScaling l G cA a V p0 q0 (by omega) (by omega)) (cwV 2 hts gX0_connectorBreaks_X0_isExactScaling rfl rfl rfl (by decide +kernel) ⟨Nat.le_of_ble_eq_true rfl, Nat.le_of_ble_eq_true rfl⟩) hK hP rfl rfl rfl rfl hl.1 rfl (Nat.le_of_ble_eq_true rfl) dX0_connectorBreaks_105 ⟨Nat.zero_le _, Nat.zero_le _⟩ ?_
          refine bb_ne (tgt := 115) hx hb dX0_connectorBreaks_108 (by decide) (fun c108 => ?_) (fun c108 => ?_)
          · refine lv_iconst (v := 0) hx hb dX0_connectorBreaks_115 (by decide) ?_
            exact rd_zret hx hb hr rfl (z1_f (by unfold xCB; simp [c108, c99])) dX0_connectorBreaks_116 hlocks
          · refine lv_iconst (v := 1) hx hb dX0_connectorBreaks_111 (by decide) ?_
            refine lv_goto (tgt := 116) hx hb dX0_connectorBreaks_112 (by decide) ?_
            exact rd_zret hx hb hr rfl (z1_t (by unfold xCB; simp [c108, c99])) dX0_connectorBreaks_116 hlocks
      · skip
        by_cases r4 : r0 = 4
        · subst r4
          refine lv_tableIn (off := 116) (tgt := 117) hx hb dX0_connectorBreaks_1 (by decide) (by decide) (by decide) (by decide) ?_
          refine lv_aload_n hx hb dX0_connectorBreaks_117 rfl (lv_at hl 0 rfl) ?_
          refine va_get (D := G) (ci := 0) (v := .ref (a 11)) (C := RX0) (T := TX0) (N := 19) hx hb hts hfi hown hK hP 0 rfl rfl 11 (by decide) (hts (.fieldLink RX0 39 "PortRules" "versionOf" "[I") (by decide +kernel)) (fun _ h9 => h9) rfl dX0_connectorBreaks_118 ?_
          refine lv_iload_n hx hb dX0_connectorBreaks_121 rfl (lv_at hl 3 rfl) ?_
          refine rd_iald hx hb hK hP 10 0 rfl rfl (by omega) (by decide) dX0_connectorBreaks_122 ?_
          refine lv_iconst (v := -1) hx hb dX0_connectorBreaks_123 (by decide) ?_
          refine lv_icmp_eq (tgt := 140) hx hb dX0_connectorBreaks_124 (by decide) (fun c124 => ?_) (fun c124 => ?_)
          · refine lv_iconst (v := 0) hx hb dX0_connectorBreaks_140 (by decide) ?_
            exact rd_zret hx hb hr rfl (z1_f (by unfold xCB; simp [c124])) dX0_connectorBreaks_141 hlocks
          · refine lv_aload_n hx hb dX0_connectorBreaks_127 rfl (lv_at hl 0 rfl) ?_
            refine lv_iload_n hx hb dX0_connectorBreaks_128 rfl (lv_at hl 2 rfl) ?_
            refine lv_iload_n hx hb dX0_connectorBreaks_129 rfl (lv_at hl 3 rfl) ?_
            refine rd_callV (As := [.int (nI p0), .int (nI q0)]) (rest := []) (b := a 0) (q0 := 0) (ci := 0) ⟨hx, hb, hml, hown, hts⟩ (cx_servesVersion l G cA a V p0 q0 (by omega) (by omega)) (cwV 2 hts gX0_connectorBreaks_X0_servesVersion rfl rfl rfl (by decide +kernel) ⟨Nat.le_of_ble_eq_true rfl, Nat.le_of_ble_eq_true rfl⟩) hK hP rfl rfl rfl rfl hl.1 rfl (Nat.le_of_ble_eq_true rfl) dX0_connectorBreaks_130 ⟨Nat.zero_le _, Nat.zero_le _⟩ ?_
            refine bb_ne (tgt := 140) hx hb dX0_connectorBreaks_133 (by decide) (fun c133 => ?_) (fun c133 => ?_)
            · refine lv_iconst (v := 0) hx hb dX0_connectorBreaks_140 (by decide) ?_
              exact rd_zret hx hb hr rfl (z1_f (by unfold xCB; simp [c124, c133])) dX0_connectorBreaks_141 hlocks
            · refine lv_iconst (v := 1) hx hb dX0_connectorBreaks_136 (by decide) ?_
              refine lv_goto (tgt := 141) hx hb dX0_connectorBreaks_137 (by decide) ?_
              exact rd_zret hx hb hr rfl (z1_t (by unfold xCB; simp [c124, c133])) dX0_connectorBreaks_141 hlocks
        · skip
          refine lv_tableOut (tgt := 142) hx hb dX0_connectorBreaks_1 (by rw [nI_toInt (by omega)]; omega) (by decide) ?_
          refine lv_aload_n hx hb dX0_connectorBreaks_142 rfl (lv_at hl 0 rfl) ?_
          refine va_get (D := G) (ci := 0) (v := .ref (a 6)) (C := RX0) (T := TX0) (N := 19) hx hb hts hfi hown hK hP 0 rfl rfl 6 (by decide) (hts (.fieldLink RX0 23 "PortRules" "kindOf" "[I") (by decide +kernel)) (fun _ h9 => h9) rfl dX0_connectorBreaks_143 ?_
          refine lv_iload_n hx hb dX0_connectorBreaks_146 rfl (lv_at hl 2 rfl) ?_
          refine rd_iald hx hb hK hP 5 0 rfl rfl (by omega) (by decide) dX0_connectorBreaks_147 ?_
          refine lv_iconst (v := 3) hx hb dX0_connectorBreaks_148 (by decide) ?_
          refine lv_icmp_ne (tgt := 169) hx hb dX0_connectorBreaks_149 (by decide) (fun c149 => ?_) (fun c149 => ?_)
          · refine lv_iconst (v := 0) hx hb dX0_connectorBreaks_169 (by decide) ?_
            exact rd_zret hx hb hr rfl (z1_f (by unfold xCB; simp [c149, r1, r2, r3, r4])) dX0_connectorBreaks_170 hlocks
          · refine lv_aload_n hx hb dX0_connectorBreaks_152 rfl (lv_at hl 0 rfl) ?_
            refine lv_aload_n hx hb dX0_connectorBreaks_153 rfl (lv_at hl 0 rfl) ?_
            refine va_get (D := G) (ci := 0) (v := .ref (a 5)) (C := RX0) (T := TX0) (N := 19) hx hb hts hfi hown hK hP 0 rfl rfl 5 (by decide) (hts (.fieldLink RX0 20 "PortRules" "partOf" "[I") (by decide +kernel)) (fun _ h9 => h9) rfl dX0_connectorBreaks_154 ?_
            refine lv_iload_n hx hb dX0_connectorBreaks_157 rfl (lv_at hl 2 rfl) ?_
            refine rd_iald hx hb hK hP 4 0 rfl rfl (by omega) (by decide) dX0_connectorBreaks_158 ?_
            refine rd_callV (As := [.int (xf V 5 p0)]) (rest := []) (b := a 0) (q0 := 0) (ci := 0) ⟨hx, hb, hml, hown, hts⟩ (cx_managesMode l G cA a V (xf V 5 p0)) (cwV 1 hts gX0_connectorBreaks_X0_managesMode rfl rfl rfl (by decide +kernel) ⟨Nat.le_of_ble_eq_true rfl, Nat.le_of_ble_eq_true rfl⟩) hK hP rfl rfl rfl rfl hl.1 rfl (Nat.le_of_ble_eq_true rfl) dX0_connectorBreaks_159 ⟨Nat.zero_le _, Nat.zero_le _⟩ ?_
            refine bb_ne (tgt := 169) hx hb dX0_connectorBreaks_162 (by decide) (fun c162 => ?_) (fun c162 => ?_)
            · refine lv_iconst (v := 0) hx hb dX0_connectorBreaks_169 (by decide) ?_
              exact rd_zret hx hb hr rfl (z1_f (by unfold xCB; simp [c149, c162, r1, r2, r3, r4])) dX0_connectorBreaks_170 hlocks
            · refine lv_iconst (v := 1) hx hb dX0_connectorBreaks_165 (by decide) ?_
              refine lv_goto (tgt := 170) hx hb dX0_connectorBreaks_166 (by decide) ?_
              exact rd_zret hx hb hr rfl (z1_t (by unfold xCB; simp [c149, c162, r1, r2, r3, r4])) dX0_connectorBreaks_170 hlocks
set_option maxHeartbeats 4000000 in
set_option maxRecDepth 100000 in
theorem cx_firstBadConnector (l : Launch) (G : va_G) (cA : Nat → ClassId) (a : Nat → Nat) (V : XV) (r0 : Nat) (h60 : xnq V ≤ 60) (hr0 : r0 ≤ 9) : Met l yX0_firstBadConnector wsX0_firstBadConnector { frames := 3, cells := 0, slots := 0, locals := 63 } (rd_Pc G vwC2 (tT cA) (xW cA a V) [.ref (a 0), .int (nI r0)]) (k2_QcV (.int (nI (xBC V r0)))) 0 0 (fun _ => False) := by
  refine Met.ofW (cc := cX0_firstBadConnector) (maxL := 6) (ret := some .int) (by decide) rfl ?_
  intro p e s m args below meth c s₁ B hml hv
  obtain ⟨rfl, hP, hK⟩ := hv
  have hx := B.exec
  have hb := B.bytes
  have hr := B.returns
  have hts := atoms_spec (ws := wsX0_firstBadConnector) B.pre
  have hown : s.vm.findClass RX0 = some m.cls := findClass_of_methodNamed B.named
  have hlocks := B.notSynchronized
  have hfi : ∀ w ∈ u_ws RX0 TX0 19, w ∈ wsX0_firstBadConnector := by decide +kernel
  have hl := lv_entry ([.ref (a 0), .int (nI r0)]) (n := 6) (Nat.le_of_ble_eq_true rfl)
  rw [lg_entry_eq]
  generalize (lg_sl ([.ref (a 0), .int (nI r0)]) ++ List.replicate (6 - (lg_sl ([.ref (a 0), .int (nI r0)])).length) Slot.unset).toArray = ls at hl ⊢
  have hl : lv_has ls 6 [(0, .ref (a 0)), (1, .int (nI r0))] := hl
  refine lv_iconst (v := nI 1) hx hb dX0_firstBadConnector_0 (by decide) ?_
  refine lv_istore_n (lv' := [(2, .int (nI 1)), (0, .ref (a 0)), (1, .int (nI r0))]) hx hb dX0_firstBadConnector_1 rfl hl (by decide) rfl (fun ls hl => ?_)
  refine rd_loop (fun k ls => ∃ i : Nat, 1 ≤ i ∧ i + k = xnq V + 1 ∧ pu_fst2 (fun p0 q0 => xF V p0 q0 && xCB V r0 p0 q0) (xnq V) k i = xBC V r0 ∧ lv_has ls 6 [(2, .int (nI i)), (0, .ref (a 0)), (1, .int (nI r0))]) ?_ (xnq V) ls ⟨1, by omega, by omega, rfl, (lv_sub hl [0, 1, 2] rfl)⟩
  intro k2 ls ⟨i, hi, hk, hR, hl⟩ ih2
  refine lv_iload_n hx hb dX0_firstBadConnector_2 rfl (lv_at hl 0 rfl) ?_
  refine lv_aload_n hx hb dX0_firstBadConnector_3 rfl (lv_at hl 1 rfl) ?_
  refine va_get (D := G) (ci := 0) (v := .int (nI (xnq V))) (C := RX0) (T := TX0) (N := 19) hx hb hts hfi hown hK hP 0 rfl rfl 4 (by decide) (hts (.fieldLink RX0 75 "PortRules" "portCount" "I") (by decide +kernel)) (fun _ h9 => h9) rfl dX0_firstBadConnector_4 ?_
  refine nb_gt (tgt := 63) hx hb dX0_firstBadConnector_7 (by decide) (by omega) (by omega) (fun c7 => ?_) (fun c7 => ?_)
  · refine lv_iconst (v := nI 0) hx hb dX0_firstBadConnector_63 (by decide) ?_
    exact rd_iret hx hb hr (by rw [← hR, show k2 = 0 by omega]; rfl) dX0_firstBadConnector_64 hlocks
  · obtain ⟨k2, rfl⟩ : ∃ z, k2 = z + 1 := ⟨k2 - 1, by omega⟩
    refine lv_aload_n hx hb dX0_firstBadConnector_10 rfl (lv_at hl 1 rfl) ?_
    refine lv_iload_n hx hb dX0_firstBadConnector_11 rfl (lv_at hl 0 rfl) ?_
    refine rd_callV (As := [.int (nI i)]) (rest := []) (b := a 0) (q0 := 0) (ci := 0) ⟨hx, hb, hml, hown, hts⟩ (cx_flatFrom l G cA a V i (by omega)) (cwV 1 hts gX0_firstBadConnector_X0_flatFrom rfl rfl rfl (by decide +kernel) ⟨Nat.le_of_ble_eq_true rfl, Nat.le_of_ble_eq_true rfl⟩) hK hP rfl rfl rfl rfl hl.1 rfl (Nat.le_of_ble_eq_true rfl) dX0_firstBadConnector_12 ⟨Nat.zero_le _, Nat.zero_le _⟩ ?_
    refine lv_lstore_n (lv' := [(3, .long (xFl V i)), (2, .int (nI i)), (0, .ref (a 0)), (1, .int (nI r0))]) hx hb dX0_firstBadConnector_15 rfl hl (by decide) rfl (fun ls hl => ?_)
    refine lv_iconst (v := nI 1) hx hb dX0_firstBadConnector_16 (by decide) ?_
    refine lv_istore (lv' := [(5, .int (nI 1)), (3, .long (xFl V i)), (2, .int (nI i)), (0, .ref (a 0)), (1, .int (nI r0))]) hx hb dX0_firstBadConnector_17 hl (by decide) rfl (fun ls hl => ?_)
    refine rd_loop (fun k ls => ∃ j : Nat, 1 ≤ j ∧ j + k = xnq V + 1 ∧ pu_fst (fun q0 => xF V i q0 && xCB V r0 i q0) k j = pu_fst (fun q0 => xF V i q0 && xCB V r0 i q0) (xnq V) 1 ∧ lv_has ls 6 [(5, .int (nI j)), (3, .long (xFl V i)), (2, .int (nI i)), (0, .ref (a 0)), (1, .int (nI r0))]) ?_ (xnq V) ls ⟨1, by omega, by omega, rfl, (lv_sub hl [0, 1, 2, 3, 4] rfl)⟩
    intro k19 ls ⟨j, hj, hk19, hS, hl⟩ ih19
    refine lv_iload hx hb dX0_firstBadConnector_19 (lv_at hl 0 rfl) ?_
    refine lv_aload_n hx hb dX0_firstBadConnector_21 rfl (lv_at hl 3 rfl) ?_
    refine va_get (D := G) (ci := 0) (v := .int (nI (xnq V))) (C := RX0) (T := TX0) (N := 19) hx hb hts hfi hown hK hP 0 rfl rfl 4 (by decide) (hts (.fieldLink RX0 75 "PortRules" "portCount" "I") (by decide +kernel)) (fun _ h9 => h9) rfl dX0_firstBadConnector_22 ?_
    refine nb_gt (tgt := 57) hx hb dX0_firstBadConnector_25 (by decide) (by omega) (by omega) (fun c25 => ?_) (fun c25 => ?_)
    · refine lv_iinc (v := nI (i + 1)) (lv' := [(2, .int (nI (i + 1))), (5, .int (nI j)), (3, .long (xFl V i)), (0, .ref (a 0)), (1, .int (nI r0))]) hx hb dX0_firstBadConnector_57 hl (k := 2) rfl (ni_inc _) (by decide) rfl (fun ls hl => ?_)
      refine lv_goto (tgt := 2) hx hb dX0_firstBadConnector_60 (by decide) ?_
      exact ih2 k2 ls (by omega) ⟨i + 1, by omega, by omega, (pu_fst2_n (P := (fun p0 q0 => xF V p0 q0 && xCB V r0 p0 q0)) (hS.symm.trans (by rw [show k19 = 0 by omega]; rfl))).symm.trans hR, (lv_sub hl [0, 3, 4] rfl)⟩
    · obtain ⟨k19, rfl⟩ : ∃ z, k19 = z + 1 := ⟨k19 - 1, by omega⟩
      refine lv_lload_n hx hb dX0_firstBadConnector_28 rfl (lv_at hl 1 rfl) ?_
      refine lv_iload hx hb dX0_firstBadConnector_29 (lv_at hl 0 rfl) ?_
      refine rd_callS (As := [.long (xFl V i), .int (nI j)]) (rest := []) ⟨hx, hb, hml, hown, hts⟩ (cx_holds l (xFl V i) j (by omega)) (va_cwS 2 hts gX0_firstBadConnector_X0_holds rfl rfl rfl (by decide +kernel) ⟨Nat.le_of_ble_eq_true rfl, Nat.le_of_ble_eq_true rfl⟩) rfl hl.1 rfl (Nat.le_of_ble_eq_true rfl) dX0_firstBadConnector_31 ⟨Nat.zero_le _, Nat.zero_le _⟩ ?_
      refine bb_eq (tgt := 51) hx hb dX0_firstBadConnector_34 (by decide) (fun c34 => ?_) (fun c34 => ?_)
      · refine lv_iinc (v := nI (j + 1)) (lv' := [(5, .int (nI (j + 1))), (3, .long (xFl V i)), (2, .int (nI i)), (0, .ref (a 0)), (1, .int (nI r0))]) hx hb dX0_firstBadConnector_51 hl (k := 0) rfl (ni_inc _) (by decide) rfl (fun ls hl => ?_)
        refine lv_goto (tgt := 19) hx hb dX0_firstBadConnector_54 (by decide) ?_
        exact ih19 k19 ls (by omega) ⟨j + 1, by omega, by omega, (pu_fst_f (P := (fun q0 => xF V i q0 && xCB V r0 i q0)) (by simp [xF, c34])).symm.trans hS, (lv_sub hl [0, 1, 2, 3, 4] rfl)⟩
      · refine lv_aload_n hx hb dX0_firstBadConnector_37 rfl (lv_at hl 3 rfl) ?_
        refine lv_iload_n hx hb dX0_firstBadConnector_38 rfl (lv_at hl 4 rfl) ?_
        refine lv_iload_n hx hb dX0_firstBadConnector_39 rfl (lv_at hl 2 rfl) ?_
        refine lv_iload hx hb dX0_firstBadConnector_40 (lv_at hl 0 rfl) ?_
        refine rd_callV (As := [.int (nI r0), .int (nI i), .int (nI j)]) (rest := []) (b := a 0) (q0 := 0) (ci := 0) ⟨hx, hb, hml, hown, hts⟩ (cx_connectorBreaks l G cA a V r0 i j h60 (by omega) (by omega) (by omega)) (cwV 3 hts gX0_firstBadConnector_X0_connectorBreaks rfl rfl rfl (by decide +kernel) ⟨Nat.le_of_ble_eq_true rfl, Nat.le_of_ble_eq_true rfl⟩) hK hP rfl rfl rfl rfl hl.1 rfl (Nat.le_of_ble_eq_true rfl) dX0_firstBadConnector_42 ⟨Nat.zero_le _, Nat.zero_le _⟩ ?_
        refine bb_eq (tgt := 51) hx hb dX0_firstBadConnector_45 (by decide) (fun c45 => ?_) (fun c45 => ?_)
        · refine lv_iinc (v := nI (j + 1)) (lv' := [(5, .int (nI (j + 1))), (3, .long (xFl V i)), (2, .int (nI i)), (0, .ref (a 0)), (1, .int (nI r0))]) hx hb dX0_firstBadConnector_51 hl (k := 0) rfl (ni_inc _) (by decide) rfl (fun ls hl => ?_)
          refine lv_goto (tgt := 19) hx hb dX0_firstBadConnector_54 (by decide) ?_
          exact ih19 k19 ls (by omega) ⟨j + 1, by omega, by omega, (pu_fst_f (P := (fun q0 => xF V i q0 && xCB V r0 i q0)) (by simp [xF, c34, c45])).symm.trans hS, (lv_sub hl [0, 1, 2, 3, 4] rfl)⟩
        · refine lv_iload hx hb dX0_firstBadConnector_48 (lv_at hl 0 rfl) ?_
          exact rd_iret hx hb hr (by rw [← hR, pu_fst2_y (P := (fun p0 q0 => xF V p0 q0 && xCB V r0 p0 q0)) (hS.symm.trans (pu_fst_t (P := (fun q0 => xF V i q0 && xCB V r0 i q0)) (by simp [xF, c34, c45]))) (by omega)]) dX0_firstBadConnector_50 hlocks
set_option maxHeartbeats 4000000 in
set_option maxRecDepth 100000 in
theorem cx_bitCount (l : Launch) (x : Int64)  : Met l yJ13_bitCount_95d88 wsJ13_bitCount_95d88 { frames := 0, cells := 0, slots := 0, locals := 0 } (fun v _ => v = ([.long x] : List Value).toArray) (k2_QcV (.int (nI (pu_cnt (lb x) 64 0)))) 0 0 (fun _ => False) := by
  refine Met.ofW (cc := cJ13_bitCount_95d88) (maxL := 2) (ret := some .int) (by decide) rfl ?_
  intro p e s m args below meth c s₁ B hml hv
  obtain rfl := hv
  have hx := B.exec
  have hb := B.bytes
  have hr := B.returns
  have hts := atoms_spec (ws := wsJ13_bitCount_95d88) B.pre
  have hown : s.vm.findClass RJ13 = some m.cls := findClass_of_methodNamed B.named
  have hlocks := B.notSynchronized
  have hl := lv_entry ([.long x]) (n := 2) (Nat.le_of_ble_eq_true rfl)
  rw [lg_entry_eq]
  generalize (lg_sl ([.long x]) ++ List.replicate (2 - (lg_sl ([.long x])).length) Slot.unset).toArray = ls at hl ⊢
  have hl : lv_has ls 2 [(0, .long x)] := hl
  refine lv_lload_n hx hb dJ13_bitCount_95d88_0 rfl (lv_at hl 0 rfl) ?_
  refine lv_lload_n hx hb dJ13_bitCount_95d88_1 rfl (lv_at hl 0 rfl) ?_
  refine lv_iconst (v := 1) hx hb dJ13_bitCount_95d88_2 (by decide) ?_
  refine lv_lushr (v := lsr x 1) hx hb dJ13_bitCount_95d88_3 (rfl) ?_
  refine lv_ldc2 (v := 6148914691236517205) hx hb hown (hts (.constantLong RJ13 314 6148914691236517205) (by decide +kernel)) dJ13_bitCount_95d88_4 ?_
  refine lv_land hx hb dJ13_bitCount_95d88_7 ?_
  refine lv_lsub hx hb dJ13_bitCount_95d88_8 ?_
  refine rd_topl (y := bc1 x) (rfl) ?_
  refine lv_lstore_n (lv' := [(0, .long (bc1 x))]) hx hb dJ13_bitCount_95d88_9 rfl hl (by decide) rfl (fun ls hl => ?_)
  refine lv_lload_n hx hb dJ13_bitCount_95d88_10 rfl (lv_at hl 0 rfl) ?_
  refine lv_ldc2 (v := 3689348814741910323) hx hb hown (hts (.constantLong RJ13 316 3689348814741910323) (by decide +kernel)) dJ13_bitCount_95d88_11 ?_
  refine lv_land hx hb dJ13_bitCount_95d88_14 ?_
  refine lv_lload_n hx hb dJ13_bitCount_95d88_15 rfl (lv_at hl 0 rfl) ?_
  refine lv_iconst (v := 2) hx hb dJ13_bitCount_95d88_16 (by decide) ?_
  refine lv_lushr (v := lsr (bc1 x) 2) hx hb dJ13_bitCount_95d88_17 (rfl) ?_
  refine lv_ldc2 (v := 3689348814741910323) hx hb hown (hts (.constantLong RJ13 316 3689348814741910323) (by decide +kernel)) dJ13_bitCount_95d88_18 ?_
  refine lv_land hx hb dJ13_bitCount_95d88_21 ?_
  refine lv_ladd hx hb dJ13_bitCount_95d88_22 ?_
  refine rd_topl (y := bc2 (bc1 x)) (rfl) ?_
  refine lv_lstore_n (lv' := [(0, .long (bc2 (bc1 x)))]) hx hb dJ13_bitCount_95d88_23 rfl hl (by decide) rfl (fun ls hl => ?_)
  refine lv_lload_n hx hb dJ13_bitCount_95d88_24 rfl (lv_at hl 0 rfl) ?_
  refine lv_lload_n hx hb dJ13_bitCount_95d88_25 rfl (lv_at hl 0 rfl) ?_
  refine lv_iconst (v := 4) hx hb dJ13_bitCount_95d88_26 (by decide) ?_
  refine lv_lushr (v := lsr (bc2 (bc1 x)) 4) hx hb dJ13_bitCount_95d88_27 (rfl) ?_
  refine lv_ladd hx hb dJ13_bitCount_95d88_28 ?_
  refine lv_ldc2 (v := 1085102592571150095) hx hb hown (hts (.constantLong RJ13 318 1085102592571150095) (by decide +kernel)) dJ13_bitCount_95d88_29 ?_
  refine lv_land hx hb dJ13_bitCount_95d88_32 ?_
  refine rd_topl (y := bc3 (bc2 (bc1 x))) (rfl) ?_
  refine lv_lstore_n (lv' := [(0, .long (bc3 (bc2 (bc1 x))))]) hx hb dJ13_bitCount_95d88_33 rfl hl (by decide) rfl (fun ls hl => ?_)
  refine lv_lload_n hx hb dJ13_bitCount_95d88_34 rfl (lv_at hl 0 rfl) ?_
  refine lv_lload_n hx hb dJ13_bitCount_95d88_35 rfl (lv_at hl 0 rfl) ?_
  refine lv_bipush (v := 8) hx hb dJ13_bitCount_95d88_36 (by decide) ?_
  refine lv_lushr (v := lsr (bc3 (bc2 (bc1 x))) 8) hx hb dJ13_bitCount_95d88_38 (rfl) ?_
  refine lv_ladd hx hb dJ13_bitCount_95d88_39 ?_
  refine rd_topl (y := bc4 (bc3 (bc2 (bc1 x)))) (rfl) ?_
  refine lv_lstore_n (lv' := [(0, .long (bc4 (bc3 (bc2 (bc1 x)))))]) hx hb dJ13_bitCount_95d88_40 rfl hl (by decide) rfl (fun ls hl => ?_)
  refine lv_lload_n hx hb dJ13_bitCount_95d88_41 rfl (lv_at hl 0 rfl) ?_
  refine lv_lload_n hx hb dJ13_bitCount_95d88_42 rfl (lv_at hl 0 rfl) ?_
  refine lv_bipush (v := 16) hx hb dJ13_bitCount_95d88_43 (by decide) ?_
  refine lv_lushr (v := lsr (bc4 (bc3 (bc2 (bc1 x)))) 16) hx hb dJ13_bitCount_95d88_45 (rfl) ?_
  refine lv_ladd hx hb dJ13_bitCount_95d88_46 ?_
  refine rd_topl (y := bc5 (bc4 (bc3 (bc2 (bc1 x))))) (rfl) ?_
  refine lv_lstore_n (lv' := [(0, .long (bc5 (bc4 (bc3 (bc2 (bc1 x))))))]) hx hb dJ13_bitCount_95d88_47 rfl hl (by decide) rfl (fun ls hl => ?_)
  refine lv_lload_n hx hb dJ13_bitCount_95d88_48 rfl (lv_at hl 0 rfl) ?_
  refine lv_lload_n hx hb dJ13_bitCount_95d88_49 rfl (lv_at hl 0 rfl) ?_
  refine lv_bipush (v := 32) hx hb dJ13_bitCount_95d88_50 (by decide) ?_
  refine lv_lushr (v := lsr (bc5 (bc4 (bc3 (bc2 (bc1 x))))) 32) hx hb dJ13_bitCount_95d88_52 (rfl) ?_
  refine lv_ladd hx hb dJ13_bitCount_95d88_53 ?_
  refine rd_topl (y := bc6 (bc5 (bc4 (bc3 (bc2 (bc1 x)))))) (rfl) ?_
  refine lv_lstore_n (lv' := [(0, .long (bc6 (bc5 (bc4 (bc3 (bc2 (bc1 x)))))))]) hx hb dJ13_bitCount_95d88_54 rfl hl (by decide) rfl (fun ls hl => ?_)
  refine lv_lload_n hx hb dJ13_bitCount_95d88_55 rfl (lv_at hl 0 rfl) ?_
  refine lv_l2i (v := (bc6 (bc5 (bc4 (bc3 (bc2 (bc1 x)))))).toInt32) hx hb dJ13_bitCount_95d88_56 rfl ?_
  refine lv_bipush (v := 127) hx hb dJ13_bitCount_95d88_57 (by decide) ?_
  refine lv_iand hx hb dJ13_bitCount_95d88_59 ?_
  exact rd_iret hx hb hr (bcv_ok x) dJ13_bitCount_95d88_60 hlocks
set_option maxHeartbeats 4000000 in
set_option maxRecDepth 100000 in
theorem cx_flatten (l : Launch) (G : va_G) (cA : Nat → ClassId) (a : Nat → Nat) (V : XV)  (h60 : xnq V ≤ 60) : Met l yX0_flatten wsX0_flatten { frames := 3, cells := 0, slots := 0, locals := 63 } (rd_Pc G vwC2 (tT cA) (xW cA a V) [.ref (a 0)]) (k2_QcV (.int (nI (xAll V)))) 0 0 (fun _ => False) := by
  refine Met.ofW (cc := cX0_flatten) (maxL := 3) (ret := some .int) (by decide) rfl ?_
  intro p e s m args below meth c s₁ B hml hv
  obtain ⟨rfl, hP, hK⟩ := hv
  have hx := B.exec
  have hb := B.bytes
  have hr := B.returns
  have hts := atoms_spec (ws := wsX0_flatten) B.pre
  have hown : s.vm.findClass RX0 = some m.cls := findClass_of_methodNamed B.named
  have hlocks := B.notSynchronized
  have hfi : ∀ w ∈ u_ws RX0 TX0 19, w ∈ wsX0_flatten := by decide +kernel
  have hl := lv_entry ([.ref (a 0)]) (n := 3) (Nat.le_of_ble_eq_true rfl)
  rw [lg_entry_eq]
  generalize (lg_sl ([.ref (a 0)]) ++ List.replicate (3 - (lg_sl ([.ref (a 0)])).length) Slot.unset).toArray = ls at hl ⊢
  have hl : lv_has ls 3 [(0, .ref (a 0))] := hl
  refine lv_iconst (v := nI 0) hx hb dX0_flatten_0 (by decide) ?_
  refine lv_istore_n (lv' := [(1, .int (nI 0)), (0, .ref (a 0))]) hx hb dX0_flatten_1 rfl hl (by decide) rfl (fun ls hl => ?_)
  refine lv_iconst (v := nI 1) hx hb dX0_flatten_2 (by decide) ?_
  refine lv_istore_n (lv' := [(2, .int (nI 1)), (1, .int (nI 0)), (0, .ref (a 0))]) hx hb dX0_flatten_3 rfl hl (by decide) rfl (fun ls hl => ?_)
  refine rd_loop (fun k ls => ∃ i n : Nat, 1 ≤ i ∧ i + k = xnq V + 1 ∧ n + pu_sum (fun p0 => pu_cnt (lb (xFl V p0)) 64 0) k i = xAll V ∧ lv_has ls 3 [(2, .int (nI i)), (1, .int (nI n)), (0, .ref (a 0))]) ?_ (xnq V) ls ⟨1, 0, by omega, by omega, Nat.zero_add _, (lv_sub hl [0, 1, 2] rfl)⟩
  intro k4 ls ⟨i, n, hi, hk, hR, hl⟩ ih4
  refine lv_iload_n hx hb dX0_flatten_4 rfl (lv_at hl 0 rfl) ?_
  refine lv_aload_n hx hb dX0_flatten_5 rfl (lv_at hl 2 rfl) ?_
  refine va_get (D := G) (ci := 0) (v := .int (nI (xnq V))) (C := RX0) (T := TX0) (N := 19) hx hb hts hfi hown hK hP 0 rfl rfl 4 (by decide) (hts (.fieldLink RX0 75 "PortRules" "portCount" "I") (by decide +kernel)) (fun _ h9 => h9) rfl dX0_flatten_6 ?_
  refine nb_gt (tgt := 29) hx hb dX0_flatten_9 (by decide) (by omega) (by omega) (fun c9 => ?_) (fun c9 => ?_)
  · refine lv_iload_n hx hb dX0_flatten_29 rfl (lv_at hl 1 rfl) ?_
    exact rd_iret hx hb hr (by rw [← hR, show k4 = 0 by omega]; rfl) dX0_flatten_30 hlocks
  · obtain ⟨k4, rfl⟩ : ∃ z, k4 = z + 1 := ⟨k4 - 1, by omega⟩
    refine lv_iload_n hx hb dX0_flatten_12 rfl (lv_at hl 1 rfl) ?_
    refine lv_aload_n hx hb dX0_flatten_13 rfl (lv_at hl 2 rfl) ?_
    refine lv_iload_n hx hb dX0_flatten_14 rfl (lv_at hl 0 rfl) ?_
    refine rd_callV (As := [.int (nI i)]) (rest := [.int (nI n)]) (b := a 0) (q0 := 0) (ci := 0) ⟨hx, hb, hml, hown, hts⟩ (cx_flatFrom l G cA a V i (by omega)) (cwV 1 hts gX0_flatten_X0_flatFrom rfl rfl rfl (by decide +kernel) ⟨Nat.le_of_ble_eq_true rfl, Nat.le_of_ble_eq_true rfl⟩) hK hP rfl rfl rfl rfl hl.1 rfl (Nat.le_of_ble_eq_true rfl) dX0_flatten_15 ⟨Nat.zero_le _, Nat.zero_le _⟩ ?_
    refine rd_callS (As := [.long (xFl V i)]) (rest := [.int (nI n)]) ⟨hx, hb, hml, hown, hts⟩ (cx_bitCount l (xFl V i)) (va_cwS 1 hts gX0_flatten_J13_bitCount_95d88 rfl rfl rfl (by decide +kernel) ⟨Nat.le_of_ble_eq_true rfl, Nat.le_of_ble_eq_true rfl⟩) rfl hl.1 rfl (Nat.le_of_ble_eq_true rfl) dX0_flatten_18 ⟨Nat.zero_le _, Nat.zero_le _⟩ ?_
    refine lv_iadd hx hb dX0_flatten_21 ?_
    refine rd_topi (y := nI (n + pu_cnt (lb (xFl V i)) 64 0)) (nI_add _ _) ?_
    refine lv_istore_n (lv' := [(1, .int (nI (n + pu_cnt (lb (xFl V i)) 64 0))), (2, .int (nI i)), (0, .ref (a 0))]) hx hb dX0_flatten_22 rfl hl (by decide) rfl (fun ls hl => ?_)
    refine lv_iinc (v := nI (i + 1)) (lv' := [(2, .int (nI (i + 1))), (1, .int (nI (n + pu_cnt (lb (xFl V i)) 64 0))), (0, .ref (a 0))]) hx hb dX0_flatten_23 hl (k := 1) rfl (ni_inc _) (by decide) rfl (fun ls hl => ?_)
    refine lv_goto (tgt := 4) hx hb dX0_flatten_26 (by decide) ?_
    exact ih4 k4 ls (by omega) ⟨i + 1, n + pu_cnt (lb (xFl V i)) 64 0, by omega, by omega, by simp only [pu_sum] at hR; omega, (lv_sub hl [0, 1, 2] rfl)⟩
set_option maxHeartbeats 4000000 in
set_option maxRecDepth 100000 in
theorem cx_check (l : Launch) (G : va_G) (cA : Nat → ClassId) (a : Nat → Nat) (V : XV)  (h60 : xnq V ≤ 60) : Met l yX0_check wsX0_check { frames := 6, cells := 0, slots := 0, locals := 131 } (rd_Pc G vwC2 (tT cA) (xW cA a V) [.ref (a 0)]) (k2_QcV (.int (nI (xChk V)))) 0 0 (fun _ => False) := by
  refine Met.ofW (cc := cX0_check) (maxL := 3) (ret := some .int) (by decide) rfl ?_
  intro p e s m args below meth c s₁ B hml hv
  obtain ⟨rfl, hP, hK⟩ := hv
  have hx := B.exec
  have hb := B.bytes
  have hr := B.returns
  have hts := atoms_spec (ws := wsX0_check) B.pre
  have hown : s.vm.findClass RX0 = some m.cls := findClass_of_methodNamed B.named
  have hlocks := B.notSynchronized
  have hl := lv_entry ([.ref (a 0)]) (n := 3) (Nat.le_of_ble_eq_true rfl)
  rw [lg_entry_eq]
  generalize (lg_sl ([.ref (a 0)]) ++ List.replicate (3 - (lg_sl ([.ref (a 0)])).length) Slot.unset).toArray = ls at hl ⊢
  have hl : lv_has ls 3 [(0, .ref (a 0))] := hl
  refine lv_iconst (v := nI 1) hx hb dX0_check_0 (by decide) ?_
  refine lv_istore_n (lv' := [(1, .int (nI 1)), (0, .ref (a 0))]) hx hb dX0_check_1 rfl hl (by decide) rfl (fun ls hl => ?_)
  refine rd_loop (fun k ls => ∃ r0 : Nat, 1 ≤ r0 ∧ r0 + k = 10 ∧ pu_chk (fun r0 => if 5 ≤ r0 ∧ r0 ≤ 8 then xBP V r0 else xBC V r0) k r0 = xChk V ∧ lv_has ls 3 [(1, .int (nI r0)), (0, .ref (a 0))]) ?_ 9 ls ⟨1, by omega, by omega, rfl, (lv_sub hl [0, 1] rfl)⟩
  intro k2 ls ⟨r0, hr1, hk, hR, hl⟩ ih2
  refine lv_iload_n hx hb dX0_check_2 rfl (lv_at hl 0 rfl) ?_
  refine lv_bipush (v := nI 9) hx hb dX0_check_3 (by decide) ?_
  refine nb_gt (tgt := 47) hx hb dX0_check_5 (by decide) (by omega) (by omega) (fun c5 => ?_) (fun c5 => ?_)
  · refine lv_iconst (v := nI 0) hx hb dX0_check_47 (by decide) ?_
    exact rd_iret hx hb hr (by rw [← hR, show k2 = 0 by omega]; rfl) dX0_check_48 hlocks
  · obtain ⟨k2, rfl⟩ : ∃ z, k2 = z + 1 := ⟨k2 - 1, by omega⟩
    refine lv_iload_n hx hb dX0_check_8 rfl (lv_at hl 0 rfl) ?_
    refine rd_callS (As := [.int (nI r0)]) (rest := []) ⟨hx, hb, hml, hown, hts⟩ (cx_isPortRule l r0 (by omega)) (va_cwS 1 hts gX0_check_X0_isPortRule rfl rfl rfl (by decide +kernel) ⟨Nat.le_of_ble_eq_true rfl, Nat.le_of_ble_eq_true rfl⟩) rfl hl.1 rfl (Nat.le_of_ble_eq_true rfl) dX0_check_9 ⟨Nat.zero_le _, Nat.zero_le _⟩ ?_
    refine bb_eq (tgt := 23) hx hb dX0_check_12 (by decide) (fun c12 => ?_) (fun c12 => ?_)
    · refine lv_aload_n hx hb dX0_check_23 rfl (lv_at hl 1 rfl) ?_
      refine lv_iload_n hx hb dX0_check_24 rfl (lv_at hl 0 rfl) ?_
      refine rd_callV (As := [.int (nI r0)]) (rest := []) (b := a 0) (q0 := 0) (ci := 0) ⟨hx, hb, hml, hown, hts⟩ (cx_firstBadConnector l G cA a V r0 h60 (by omega)) (cwV 1 hts gX0_check_X0_firstBadConnector rfl rfl rfl (by decide +kernel) ⟨Nat.le_of_ble_eq_true rfl, Nat.le_of_ble_eq_true rfl⟩) hK hP rfl rfl rfl rfl hl.1 rfl (Nat.le_of_ble_eq_true rfl) dX0_check_25 ⟨Nat.zero_le _, Nat.zero_le _⟩ ?_
      refine lv_istore_n (lv' := [(2, .int (nI (xBC V r0))), (1, .int (nI r0)), (0, .ref (a 0))]) hx hb dX0_check_28 rfl hl (by decide) rfl (fun ls hl => ?_)
      refine lv_iload_n hx hb dX0_check_29 rfl (lv_at hl 0 rfl) ?_
      refine bn_eq (tgt := 41) hx hb dX0_check_30 (by decide) (by have h1 := xBP_le V r0; have h2 := xBC_le V r0; omega) (fun c30 => ?_) (fun c30 => ?_)
      · refine lv_iinc (v := nI (r0 + 1)) (lv' := [(1, .int (nI (r0 + 1))), (2, .int (nI (xBC V r0))), (0, .ref (a 0))]) hx hb dX0_check_41 hl (k := 1) rfl (ni_inc _) (by decide) rfl (fun ls hl => ?_)
        refine lv_goto (tgt := 2) hx hb dX0_check_44 (by decide) ?_
        exact ih2 k2 ls (by omega) ⟨r0 + 1, by omega, by omega, (pu_chk_n (b := (fun r0 => if 5 ≤ r0 ∧ r0 ≤ 8 then xBP V r0 else xBC V r0)) (Eq.trans (if_neg (by simpa using c12)) c30)).symm.trans hR, (lv_sub hl [0, 2] rfl)⟩
      · refine lv_sipush (v := nI 1000) hx hb dX0_check_33 (by decide) ?_
        refine lv_iload_n hx hb dX0_check_36 rfl (lv_at hl 1 rfl) ?_
        refine lv_imul hx hb dX0_check_37 ?_
        refine rd_topi (y := nI (1000 * r0)) (pk_mul _ _) ?_
        refine lv_iload_n hx hb dX0_check_38 rfl (lv_at hl 0 rfl) ?_
        refine lv_iadd hx hb dX0_check_39 ?_
        refine rd_topi (y := nI (1000 * r0 + xBC V r0)) (nI_add _ _) ?_
        exact rd_iret hx hb hr (by rw [← hR, pu_chk_y (b := (fun r0 => if 5 ≤ r0 ∧ r0 ≤ 8 then xBP V r0 else xBC V r0)) (z := xBC V r0) (if_neg (by simpa using c12)) c30]) dX0_check_40 hlocks
    · refine lv_aload_n hx hb dX0_check_15 rfl (lv_at hl 1 rfl) ?_
      refine lv_iload_n hx hb dX0_check_16 rfl (lv_at hl 0 rfl) ?_
      refine rd_callV (As := [.int (nI r0)]) (rest := []) (b := a 0) (q0 := 0) (ci := 0) ⟨hx, hb, hml, hown, hts⟩ (cx_firstBadPort l G cA a V r0 h60 (by omega)) (cwV 1 hts gX0_check_X0_firstBadPort rfl rfl rfl (by decide +kernel) ⟨Nat.le_of_ble_eq_true rfl, Nat.le_of_ble_eq_true rfl⟩) hK hP rfl rfl rfl rfl hl.1 rfl (Nat.le_of_ble_eq_true rfl) dX0_check_17 ⟨Nat.zero_le _, Nat.zero_le _⟩ ?_
      refine lv_goto (tgt := 28) hx hb dX0_check_20 (by decide) ?_
      refine lv_istore_n (lv' := [(2, .int (nI (xBP V r0))), (1, .int (nI r0)), (0, .ref (a 0))]) hx hb dX0_check_28 rfl hl (by decide) rfl (fun ls hl => ?_)
      refine lv_iload_n hx hb dX0_check_29 rfl (lv_at hl 0 rfl) ?_
      refine bn_eq (tgt := 41) hx hb dX0_check_30 (by decide) (by have h1 := xBP_le V r0; have h2 := xBC_le V r0; omega) (fun c30 => ?_) (fun c30 => ?_)
      · refine lv_iinc (v := nI (r0 + 1)) (lv' := [(1, .int (nI (r0 + 1))), (2, .int (nI (xBP V r0))), (0, .ref (a 0))]) hx hb dX0_check_41 hl (k := 1) rfl (ni_inc _) (by decide) rfl (fun ls hl => ?_)
        refine lv_goto (tgt := 2) hx hb dX0_check_44 (by decide) ?_
        exact ih2 k2 ls (by omega) ⟨r0 + 1, by omega, by omega, (pu_chk_n (b := (fun r0 => if 5 ≤ r0 ∧ r0 ≤ 8 then xBP V r0 else xBC V r0)) (Eq.trans (if_pos (by simpa using c12)) c30)).symm.trans hR, (lv_sub hl [0, 2] rfl)⟩
      · refine lv_sipush (v := nI 1000) hx hb dX0_check_33 (by decide) ?_
        refine lv_iload_n hx hb dX0_check_36 rfl (lv_at hl 1 rfl) ?_
        refine lv_imul hx hb dX0_check_37 ?_
        refine rd_topi (y := nI (1000 * r0)) (pk_mul _ _) ?_
        refine lv_iload_n hx hb dX0_check_38 rfl (lv_at hl 0 rfl) ?_
        refine lv_iadd hx hb dX0_check_39 ?_
        refine rd_topi (y := nI (1000 * r0 + xBP V r0)) (nI_add _ _) ?_
        exact rd_iret hx hb hr (by rw [← hR, pu_chk_y (b := (fun r0 => if 5 ≤ r0 ∧ r0 ≤ 8 then xBP V r0 else xBC V r0)) (z := xBP V r0) (if_pos (by simpa using c12)) c30]) dX0_check_40 hlocks
set_option maxHeartbeats 4000000 in
set_option maxRecDepth 100000 in
theorem cx_open (l : Launch) (G : va_G) (cA : Nat → ClassId) (a : Nat → Nat) (V : XV) (x : Int32) (h60 : xnq V ≤ 60) : Met l yX0_open wsX0_open { frames := 4, cells := 0, slots := 0, locals := 86 } (rd_Pc G vwC2 (tT cA) (xW cA a V) [.ref (a 0), .int x]) (k2_QcV (.int (if x.toInt < 0 then 0 else nI (xOp V x.toNatClampNeg)))) 0 0 (fun _ => False) := by
  refine Met.ofW (cc := cX0_open) (maxL := 2) (ret := some .int) (by decide) rfl ?_
  intro p e s m args below meth c s₁ B hml hv
  obtain ⟨rfl, hP, hK⟩ := hv
  have hx := B.exec
  have hb := B.bytes
  have hr := B.returns
  have hts := atoms_spec (ws := wsX0_open) B.pre
  have hown : s.vm.findClass RX0 = some m.cls := findClass_of_methodNamed B.named
  have hlocks := B.notSynchronized
  have hfi : ∀ w ∈ u_ws RX0 TX0 19, w ∈ wsX0_open := by decide +kernel
  have hl := lv_entry ([.ref (a 0), .int x]) (n := 2) (Nat.le_of_ble_eq_true rfl)
  rw [lg_entry_eq]
  generalize (lg_sl ([.ref (a 0), .int x]) ++ List.replicate (2 - (lg_sl ([.ref (a 0), .int x])).length) Slot.unset).toArray = ls at hl ⊢
  have hl : lv_has ls 2 [(0, .ref (a 0)), (1, .int x)] := hl
  refine lv_iload_n hx hb dX0_open_0 rfl (lv_at hl 1 rfl) ?_
  refine bz_ge (a := x.toInt) (tgt := 8) hx hb dX0_open_1 (by decide) rfl (fun c1 => ?_) (fun c1 => ?_)
  · obtain ⟨t, ht, rfl⟩ := ni_pos c1
    refine lv_aload_n hx hb dX0_open_8 rfl (lv_at hl 0 rfl) ?_
    refine lv_aload_n hx hb dX0_open_9 rfl (lv_at hl 0 rfl) ?_
    refine va_get (D := G) (ci := 0) (v := .long (xar V)) (C := RX0) (T := TX0) (N := 19) hx hb hts hfi hown hK hP 0 rfl rfl 18 (by decide) (hts (.fieldLink RX0 134 "PortRules" "atomicRequired" "J") (by decide +kernel)) (fun _ h9 => h9) rfl dX0_open_10 ?_
    refine lv_aload_n hx hb dX0_open_13 rfl (lv_at hl 0 rfl) ?_
    refine rd_callV (As := []) (rest := [.long (xar V), .ref (a 0)]) (b := a 0) (q0 := 0) (ci := 0) ⟨hx, hb, hml, hown, hts⟩ (cx_flatSeconds l G cA a V h60) (cwV 0 hts gX0_open_X0_flatSeconds rfl rfl rfl (by decide +kernel) ⟨Nat.le_of_ble_eq_true rfl, Nat.le_of_ble_eq_true rfl⟩) hK hP rfl rfl rfl rfl hl.1 rfl (Nat.le_of_ble_eq_true rfl) dX0_open_14 ⟨Nat.zero_le _, Nat.zero_le _⟩ ?_
    refine lv_ldc2 (v := -1) hx hb hown (hts (.constantLong RX0 142 (-1)) (by decide +kernel)) dX0_open_17 ?_
    refine lv_lxor hx hb dX0_open_20 ?_
    refine lv_land hx hb dX0_open_21 ?_
    refine lv_iload_n hx hb dX0_open_22 rfl (lv_at hl 1 rfl) ?_
    refine rd_callV (As := [.long ((xar V) &&& ((xSec V) ^^^ (-1))), .int (nI t)]) (rest := []) (b := a 0) (q0 := 0) (ci := 0) ⟨hx, hb, hml, hown, hts⟩ (cx_nthPort l G cA a V ((xar V) &&& ((xSec V) ^^^ (-1))) t h60 (by omega)) (cwV 2 hts gX0_open_X0_nthPort rfl rfl rfl (by decide +kernel) ⟨Nat.le_of_ble_eq_true rfl, Nat.le_of_ble_eq_true rfl⟩) hK hP rfl rfl rfl rfl hl.1 rfl (Nat.le_of_ble_eq_true rfl) dX0_open_23 ⟨Nat.zero_le _, Nat.zero_le _⟩ ?_
    exact rd_iret hx hb hr (by rw [if_neg (by rw [nI_toInt ht]; omega), nI_clamp ht]; rfl) dX0_open_26 hlocks
  · refine lv_iconst (v := 0) hx hb dX0_open_4 (by decide) ?_
    refine lv_goto (tgt := 26) hx hb dX0_open_5 (by decide) ?_
    exact rd_iret hx hb hr ((if_pos c1).symm) dX0_open_26 hlocks
