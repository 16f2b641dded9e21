set_option maxHeartbeats 4000000 in
set_option maxRecDepth 100000 in
theorem cx_isPart (l : Launch) (G : va_G) (cA : Nat → ClassId) (a : Nat → Nat) (V : XV) (x : Int32) (h30 : xnp V ≤ 30) : Met l yX0_isPart wsX0_isPart { frames := 0, cells := 0, slots := 0, locals := 0 } (rd_Pc G vwC2 (tT cA) (xW cA a V) [.ref (a 0), .int x]) (k2_QcV (.int (z1 (inB x 1 (xnp V))))) 0 0 (fun _ => False) := by
  refine Met.ofW (cc := cX0_isPart) (maxL := 2) (ret := some .boolean) (by decide) rfl ?_
  intro p e s m args below meth c s₁ B hml hv
  obtain ⟨rfl, hP, hK⟩ := hv
  have hx := B.exec
  have hb := B.bytes
  have hr := B.returns
  have hts := atoms_spec (ws := wsX0_isPart) B.pre
  have hown : s.vm.findClass RX0 = some m.cls := findClass_of_methodNamed B.named
  have hlocks := B.notSynchronized
  have hfi : ∀ w ∈ u_ws RX0 TX0 19, w ∈ wsX0_isPart := by decide +kernel
  have hl := lv_entry ([.ref (a 0), .int x]) (n := 2) (Nat.le_of_ble_eq_true rfl)
  rw [lg_entry_eq]
  generalize (lg_sl ([.ref (a 0), .int x]) ++ List.replicate (2 - (lg_sl ([.ref (a 0), .int x])).length) Slot.unset).toArray = ls at hl ⊢
  have hl : lv_has ls 2 [(0, .ref (a 0)), (1, .int x)] := hl
  refine lv_iload_n hx hb dX0_isPart_0 rfl (lv_at hl 1 rfl) ?_
  refine lv_iconst (v := 1) hx hb dX0_isPart_1 (by decide) ?_
  refine bi_lt (a := x.toInt) (b := 1) (tgt := 17) hx hb dX0_isPart_2 (by decide) rfl (by decide) (fun c2 => ?_) (fun c2 => ?_)
  · refine lv_iconst (v := 0) hx hb dX0_isPart_17 (by decide) ?_
    exact rd_zret hx hb hr rfl (z1_f (inB_lo c2)) dX0_isPart_18 hlocks
  · refine lv_iload_n hx hb dX0_isPart_5 rfl (lv_at hl 1 rfl) ?_
    refine lv_aload_n hx hb dX0_isPart_6 rfl (lv_at hl 0 rfl) ?_
    refine va_get (D := G) (ci := 0) (v := .int (nI (xnp V))) (C := RX0) (T := TX0) (N := 19) hx hb hts hfi hown hK hP 0 rfl rfl 0 (by decide) (hts (.fieldLink RX0 67 "PortRules" "partCount" "I") (by decide +kernel)) (fun _ h9 => h9) rfl dX0_isPart_7 ?_
    refine bi_gt (a := x.toInt) (b := (((xnp V) : Nat) : Int)) (tgt := 17) hx hb dX0_isPart_10 (by decide) rfl (nI_toInt (by omega)) (fun c10 => ?_) (fun c10 => ?_)
    · refine lv_iconst (v := 0) hx hb dX0_isPart_17 (by decide) ?_
      exact rd_zret hx hb hr rfl (z1_f (inB_hi c10)) dX0_isPart_18 hlocks
    · refine lv_iconst (v := 1) hx hb dX0_isPart_13 (by decide) ?_
      refine lv_goto (tgt := 18) hx hb dX0_isPart_14 (by decide) ?_
      exact rd_zret hx hb hr rfl (z1_t (inB_t c2 c10)) dX0_isPart_18 hlocks
set_option maxHeartbeats 4000000 in
set_option maxRecDepth 100000 in
theorem cx_isPort (l : Launch) (G : va_G) (cA : Nat → ClassId) (a : Nat → Nat) (V : XV) (x : Int32) (h60 : xnq V ≤ 60) : Met l yX0_isPort wsX0_isPort { frames := 0, cells := 0, slots := 0, locals := 0 } (rd_Pc G vwC2 (tT cA) (xW cA a V) [.ref (a 0), .int x]) (k2_QcV (.int (z1 (inB x 1 (xnq V))))) 0 0 (fun _ => False) := by
  refine Met.ofW (cc := cX0_isPort) (maxL := 2) (ret := some .boolean) (by decide) rfl ?_
  intro p e s m args below meth c s₁ B hml hv
  obtain ⟨rfl, hP, hK⟩ := hv
  have hx := B.exec
  have hb := B.bytes
  have hr := B.returns
  have hts := atoms_spec (ws := wsX0_isPort) B.pre
  have hown : s.vm.findClass RX0 = some m.cls := findClass_of_methodNamed B.named
  have hlocks := B.notSynchronized
  have hfi : ∀ w ∈ u_ws RX0 TX0 19, w ∈ wsX0_isPort := by decide +kernel
  have hl := lv_entry ([.ref (a 0), .int x]) (n := 2) (Nat.le_of_ble_eq_true rfl)
  rw [lg_entry_eq]
  generalize (lg_sl ([.ref (a 0), .int x]) ++ List.replicate (2 - (lg_sl ([.ref (a 0), .int x])).length) Slot.unset).toArray = ls at hl ⊢
  have hl : lv_has ls 2 [(0, .ref (a 0)), (1, .int x)] := hl
  refine lv_iload_n hx hb dX0_isPort_0 rfl (lv_at hl 1 rfl) ?_
  refine lv_iconst (v := 1) hx hb dX0_isPort_1 (by decide) ?_
  refine bi_lt (a := x.toInt) (b := 1) (tgt := 17) hx hb dX0_isPort_2 (by decide) rfl (by decide) (fun c2 => ?_) (fun c2 => ?_)
  · refine lv_iconst (v := 0) hx hb dX0_isPort_17 (by decide) ?_
    exact rd_zret hx hb hr rfl (z1_f (inB_lo c2)) dX0_isPort_18 hlocks
  · refine lv_iload_n hx hb dX0_isPort_5 rfl (lv_at hl 1 rfl) ?_
    refine lv_aload_n hx hb dX0_isPort_6 rfl (lv_at hl 0 rfl) ?_
    refine va_get (D := G) (ci := 0) (v := .int (nI (xnq V))) (C := RX0) (T := TX0) (N := 19) hx hb hts hfi hown hK hP 0 rfl rfl 4 (by decide) (hts (.fieldLink RX0 75 "PortRules" "portCount" "I") (by decide +kernel)) (fun _ h9 => h9) rfl dX0_isPort_7 ?_
    refine bi_gt (a := x.toInt) (b := (((xnq V) : Nat) : Int)) (tgt := 17) hx hb dX0_isPort_10 (by decide) rfl (nI_toInt (by omega)) (fun c10 => ?_) (fun c10 => ?_)
    · refine lv_iconst (v := 0) hx hb dX0_isPort_17 (by decide) ?_
      exact rd_zret hx hb hr rfl (z1_f (inB_hi c10)) dX0_isPort_18 hlocks
    · refine lv_iconst (v := 1) hx hb dX0_isPort_13 (by decide) ?_
      refine lv_goto (tgt := 18) hx hb dX0_isPort_14 (by decide) ?_
      exact rd_zret hx hb hr rfl (z1_t (inB_t c2 c10)) dX0_isPort_18 hlocks
set_option maxHeartbeats 4000000 in
set_option maxRecDepth 100000 in
theorem cx_isScaling (l : Launch) (x : Int64)  : Met l yX0_isScaling wsX0_isScaling { frames := 0, cells := 0, slots := 0, locals := 0 } (fun v _ => v = ([.long x] : List Value).toArray) (k2_QcV (.int (z1 (inL x 1 1000)))) 0 0 (fun _ => False) := by
  refine Met.ofW (cc := cX0_isScaling) (maxL := 2) (ret := some .boolean) (by decide) rfl ?_
  intro p e s m args below meth c s₁ B hml hv
  obtain rfl := hv
  have hx := B.exec
  have hb := B.bytes
  have hr := B.returns
  have hts := atoms_spec (ws := wsX0_isScaling) B.pre
  have hown : s.vm.findClass RX0 = some m.cls := findClass_of_methodNamed B.named
  have hlocks := B.notSynchronized
  have hl := lv_entry ([.long x]) (n := 2) (Nat.le_of_ble_eq_true rfl)
  rw [lg_entry_eq]
  generalize (lg_sl ([.long x]) ++ List.replicate (2 - (lg_sl ([.long x])).length) Slot.unset).toArray = ls at hl ⊢
  have hl : lv_has ls 2 [(0, .long x)] := hl
  refine lv_lload_n hx hb dX0_isScaling_0 rfl (lv_at hl 0 rfl) ?_
  refine lv_lconst (v := 1) hx hb dX0_isScaling_1 (by decide) ?_
  refine bl_lt (tgt := 18) (a := x.toInt) (b := 1) hx hb dX0_isScaling_2 dX0_isScaling_3 (by decide) rfl (by decide) (fun c3 => ?_) (fun c3 => ?_)
  · refine lv_iconst (v := 0) hx hb dX0_isScaling_18 (by decide) ?_
    exact rd_zret hx hb hr rfl (z1_f (inL_lo c3)) dX0_isScaling_19 hlocks
  · refine lv_lload_n hx hb dX0_isScaling_6 rfl (lv_at hl 0 rfl) ?_
    refine lv_ldc2 (v := 1000) hx hb hown (hts (.constantLong RX0 144 1000) (by decide +kernel)) dX0_isScaling_7 ?_
    refine bl_gt (tgt := 18) (a := x.toInt) (b := 1000) hx hb dX0_isScaling_10 dX0_isScaling_11 (by decide) rfl (by decide) (fun c11 => ?_) (fun c11 => ?_)
    · refine lv_iconst (v := 0) hx hb dX0_isScaling_18 (by decide) ?_
      exact rd_zret hx hb hr rfl (z1_f (inL_hi c11)) dX0_isScaling_19 hlocks
    · refine lv_iconst (v := 1) hx hb dX0_isScaling_14 (by decide) ?_
      refine lv_goto (tgt := 19) hx hb dX0_isScaling_15 (by decide) ?_
      exact rd_zret hx hb hr rfl (z1_t (inL_t c3 c11)) dX0_isScaling_19 hlocks
