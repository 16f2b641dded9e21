/-! M: the methods that write -/
set_option maxHeartbeats 4000000 in
set_option maxRecDepth 100000 in
theorem cm_part (l : Launch) (G : va_G) (cA : Nat → ClassId) (a : Nat → Nat) (V : MV) (x : Int32) (h30 : mnp V ≤ 30) : Met l yM_part wsM_part { frames := 1, cells := 0, slots := 0, locals := 25 } (mu_Pc G vwC2 (tT cA) (mW cA a V) [.ref (a 0), .int x]) (mu_Q G vwC2 (mW cA a V) (fun _ => some (.int ((mPart V x).1))) (fun u9 : MV => u9 = (mPart V x).2) (fun u9 => mW cA a u9)) 0 0 (mu_A (mW cA a V)) := by
  refine Met.ofW (cc := cM_part) (maxL := 2) (ret := some .int) (by decide) rfl ?_
  intro p e s m args below meth c s₁ B hml hv
  obtain ⟨rfl, hP, hK, hD0⟩ := hv
  have hx := B.exec
  have hb := B.bytes
  have hr := B.returns
  have hts := atoms_spec (ws := wsM_part) B.pre
  have hown : s.vm.findClass RX1 = some m.cls := findClass_of_methodNamed B.named
  have hlocks := B.notSynchronized
  have hD := mu_own hD0
  have hS : va_S (mu_A (mW cA a V)) s.heap s.heap [] := va_S.rf
  have hfi : ∀ w ∈ u_ws RX1 TM 18, w ∈ wsM_part := fun w h => List.mem_cons_of_mem _ (wMA_f w h)
  have hl := lv_entry ([.ref (a 0), .int x]) (n := 2) (Nat.le_of_ble_eq_true rfl)
  rw [lg_entry_eq]
  generalize (lg_sl ([.ref (a 0), .int x]) ++ List.replicate (2 - (lg_sl ([.ref (a 0), .int x])).length) Slot.unset).toArray = ls at hl ⊢
  have hl : lv_has ls 2 [(0, .ref (a 0)), (1, .int x)] := hl
  refine lv_aload_n hx hb dM_part_0 rfl (lv_at hl 0 rfl) ?_
  refine lv_iconst (v := 0) hx hb dM_part_1 (by decide) ?_
  refine va_put (D := G) (ci := 1) (v := .int 0) (ty := .int) (C := RX1) (T := TM) (N := 18) hx hb hts hfi tyM tyM_ok nmM hown hK hP hD hS 0 rfl rfl 0 (by decide) (hts (.fieldLink RX1 54 "PortRulesModel" "code" "I") (by decide +kernel)) (fun _ h9 => h9) rfl (by decide +kernel) rfl rfl (Nat.le_of_ble_eq_true rfl) dM_part_2 (fun H locs hP hD hS => ?_)
  have hP : va_P G vwC2 (mW cA a (mnp V, mnq V, 0, mkn V, mf V, mg V)) H := hP
  have hD : va_D (mu_A (mW cA a V)) (mW cA a (mnp V, mnq V, 0, mkn V, mf V, mg V)) := hD
  refine lv_iload_n hx hb dM_part_5 rfl (lv_at hl 1 rfl) ?_
  refine lv_i2l (v := x.toInt64) hx hb dM_part_6 (rfl) ?_
  refine lv_lconst (v := 0) hx hb dM_part_7 (by decide) ?_
  refine lv_aload_n hx hb dM_part_8 rfl (lv_at hl 0 rfl) ?_
  refine va_get (D := G) (ci := 1) (v := .int (nI (mnp V))) (C := RX1) (T := TM) (N := 18) hx hb hts hfi hown hK hP 0 rfl rfl 1 (by decide) (hts (.fieldLink RX1 58 "PortRulesModel" "parts" "I") (by decide +kernel)) (fun _ h9 => h9) rfl dM_part_9 ?_
  refine lv_i2l (v := (nI (mnp V)).toInt64) hx hb dM_part_12 (rfl) ?_
  refine rd_callS (As := [.long (x.toInt64), .long 0, .long ((nI (mnp V)).toInt64)]) (rest := []) ⟨hx, hb, hml, hown, hts⟩ (cm_isIn l x.toInt64 0 ((nI (mnp V)).toInt64)) (va_cwS 3 hts gM_part_M_isIn rfl rfl rfl (by decide +kernel) ⟨Nat.le_of_ble_eq_true rfl, Nat.le_of_ble_eq_true rfl⟩) rfl hl.1 rfl (Nat.le_of_ble_eq_true rfl) dM_part_13 ⟨Nat.zero_le _, Nat.zero_le _⟩ ?_
  refine rd_topi (y := z1 (inB x 0 (mnp V))) (z1_ne (isI_b (by decide) (ni_l (show mnp V < 2 ^ 31 by omega)))) ?_
  refine bb_ne (b := (inB x 0 (mnp V))) (tgt := 21) hx hb dM_part_16 (by decide) (fun c16 => ?_) (fun c16 => ?_)
  · refine lv_aload_n hx hb dM_part_21 rfl (lv_at hl 0 rfl) ?_
    refine va_get (D := G) (ci := 1) (v := .int (nI (mnp V))) (C := RX1) (T := TM) (N := 18) hx hb hts hfi hown hK hP 0 rfl rfl 1 (by decide) (hts (.fieldLink RX1 58 "PortRulesModel" "parts" "I") (by decide +kernel)) (fun _ h9 => h9) rfl dM_part_22 ?_
    refine lv_bipush (v := nI 30) hx hb dM_part_25 (by decide) ?_
    refine nb_ne (tgt := 33) hx hb dM_part_27 (by decide) (by omega) (by omega) (fun c27 => ?_) (fun c27 => ?_)
    · refine lv_aload_n hx hb dM_part_33 rfl (lv_at hl 0 rfl) ?_
      refine lv_dup hx hb dM_part_34 rfl ?_
      refine va_get (D := G) (ci := 1) (v := .int (nI (mnp V))) (C := RX1) (T := TM) (N := 18) hx hb hts hfi hown hK hP 0 rfl rfl 1 (by decide) (hts (.fieldLink RX1 58 "PortRulesModel" "parts" "I") (by decide +kernel)) (fun _ h9 => h9) rfl dM_part_35 ?_
      refine lv_iconst (v := 1) hx hb dM_part_38 (by decide) ?_
      refine lv_iadd hx hb dM_part_39 ?_
      refine rd_topi (y := nI (mnp V + 1)) (nI_1 _) ?_
      refine va_put (D := G) (ci := 1) (v := .int (nI (mnp V + 1))) (ty := .int) (C := RX1) (T := TM) (N := 18) hx hb hts hfi tyM tyM_ok nmM hown hK hP hD hS 0 rfl rfl 1 (by decide) (hts (.fieldLink RX1 58 "PortRulesModel" "parts" "I") (by decide +kernel)) (fun _ h9 => h9) rfl (by decide +kernel) rfl rfl (Nat.le_of_ble_eq_true rfl) dM_part_40 (fun H locs hP hD hS => ?_)
      have hP : va_P G vwC2 (mW cA a (mnp V + 1, mnq V, 0, mkn V, mf V, mg V)) H := hP
      have hD : va_D (mu_A (mW cA a V)) (mW cA a (mnp V + 1, mnq V, 0, mkn V, mf V, mg V)) := hD
      refine lv_aload_n hx hb dM_part_43 rfl (lv_at hl 0 rfl) ?_
      refine va_get (D := G) (ci := 1) (v := .ref (a 2)) (C := RX1) (T := TM) (N := 18) hx hb hts hfi hown hK hP 0 rfl rfl 2 (by decide) (hts (.fieldLink RX1 7 "PortRulesModel" "in" "[I") (by decide +kernel)) (fun _ h9 => h9) rfl dM_part_44 ?_
      refine lv_aload_n hx hb dM_part_47 rfl (lv_at hl 0 rfl) ?_
      refine va_get (D := G) (ci := 1) (v := .int (nI (mnp V + 1))) (C := RX1) (T := TM) (N := 18) hx hb hts hfi hown hK hP 0 rfl rfl 1 (by decide) (hts (.fieldLink RX1 58 "PortRulesModel" "parts" "I") (by decide +kernel)) (fun _ h9 => h9) rfl dM_part_48 ?_
      refine lv_iload_n hx hb dM_part_51 rfl (lv_at hl 1 rfl) ?_
      refine mu_iast hx hb hK hP hD hS 1 0 rfl rfl (by omega) (by decide) dM_part_52 (ws1 := mW cA a (mnp V + 1, mnq V, 0, mkn V, va_up (mf V) 2 (upd (mf V 2) (mnp V + 1) x), mg V)) rfl (fun H locs hP hD hS => ?_)
      refine lv_aload_n hx hb dM_part_53 rfl (lv_at hl 0 rfl) ?_
      refine lv_iconst (v := 0) hx hb dM_part_54 (by decide) ?_
      refine va_put (D := G) (ci := 1) (v := .int 0) (ty := .boolean) (C := RX1) (T := TM) (N := 18) hx hb hts hfi tyM tyM_ok nmM hown hK hP hD hS 0 rfl rfl 17 (by decide) (hts (.fieldLink RX1 65 "PortRulesModel" "known" "Z") (by decide +kernel)) (fun _ h9 => h9) rfl (by decide +kernel) rfl rfl (Nat.le_of_ble_eq_true rfl) dM_part_55 (fun H locs hP hD hS => ?_)
      have hP : va_P G vwC2 (mW cA a (mnp V + 1, mnq V, 0, 0, va_up (mf V) 2 (upd (mf V 2) (mnp V + 1) x), mg V)) H := hP
      have hD : va_D (mu_A (mW cA a V)) (mW cA a (mnp V + 1, mnq V, 0, 0, va_up (mf V) 2 (upd (mf V 2) (mnp V + 1) x), mg V)) := hD
      refine lv_aload_n hx hb dM_part_58 rfl (lv_at hl 0 rfl) ?_
      refine va_get (D := G) (ci := 1) (v := .int (nI (mnp V + 1))) (C := RX1) (T := TM) (N := 18) hx hb hts hfi hown hK hP 0 rfl rfl 1 (by decide) (hts (.fieldLink RX1 58 "PortRulesModel" "parts" "I") (by decide +kernel)) (fun _ h9 => h9) rfl dM_part_59 ?_
      have hE : mPart V x = (nI (mnp V + 1), (mnp V + 1, mnq V, 0, 0, va_up (mf V) 2 (upd (mf V 2) (mnp V + 1) x), mg V)) := by unfold mPart; rw [if_pos c16, if_neg c27]; try rfl
      exact mu_iret ((mnp V + 1, mnq V, 0, 0, va_up (mf V) 2 (upd (mf V 2) (mnp V + 1) x), mg V)) hx hb hr hS hP (by rw [hE]) (by rw [hE]) dM_part_62 hlocks
    · refine lv_bipush (v := -4) hx hb dM_part_30 (by decide) ?_
      have hE : mPart V x = (-4, (mnp V, mnq V, 0, mkn V, mf V, mg V)) := by unfold mPart; rw [if_pos c16, if_pos c27]; try rfl
      exact mu_iret ((mnp V, mnq V, 0, mkn V, mf V, mg V)) hx hb hr hS hP (by rw [hE]) (by rw [hE]) dM_part_32 hlocks
  · refine lv_iconst (v := -1) hx hb dM_part_19 (by decide) ?_
    have hE : mPart V x = (-1, (mnp V, mnq V, 0, mkn V, mf V, mg V)) := by unfold mPart; rw [if_neg (by rw [c16]; decide)]; try rfl
    exact mu_iret ((mnp V, mnq V, 0, mkn V, mf V, mg V)) hx hb hr hS hP (by rw [hE]) (by rw [hE]) dM_part_20 hlocks
set_option maxHeartbeats 4000000 in
set_option maxRecDepth 100000 in
theorem cm_port (l : Launch) (G : va_G) (cA : Nat → ClassId) (a : Nat → Nat) (V : MV) (x k0 b0 : Int32) (h30 : mnp V ≤ 30) (h60 : mnq V ≤ 60) (hnb : vp_nar .boolean b0 = b0) : Met l yM_port wsM_port { frames := 1, cells := 0, slots := 0, locals := 25 } (mu_Pc G vwC2 (tT cA) (mW cA a V) [.ref (a 0), .int x, .int k0, .int b0]) (mu_Q G vwC2 (mW cA a V) (fun _ => some (.int ((mPort V x k0 b0).1))) (fun u9 : MV => u9 = (mPort V x k0 b0).2) (fun u9 => mW cA a u9)) 0 0 (mu_A (mW cA a V)) := by
  refine Met.ofW (cc := cM_port) (maxL := 4) (ret := some .int) (by decide) rfl ?_
  intro p e s m args below meth c s₁ B hml hv
  obtain ⟨rfl, hP, hK, hD0⟩ := hv
  have hx := B.exec
  have hb := B.bytes
  have hr := B.returns
  have hts := atoms_spec (ws := wsM_port) B.pre
  have hown : s.vm.findClass RX1 = some m.cls := findClass_of_methodNamed B.named
  have hlocks := B.notSynchronized
  have hD := mu_own hD0
  have hS : va_S (mu_A (mW cA a V)) s.heap s.heap [] := va_S.rf
  have hfi : ∀ w ∈ u_ws RX1 TM 18, w ∈ wsM_port := fun w h => List.mem_cons_of_mem _ (wMA_f w h)
  have hl := lv_entry ([.ref (a 0), .int x, .int k0, .int b0]) (n := 4) (Nat.le_of_ble_eq_true rfl)
  rw [lg_entry_eq]
  generalize (lg_sl ([.ref (a 0), .int x, .int k0, .int b0]) ++ List.replicate (4 - (lg_sl ([.ref (a 0), .int x, .int k0, .int b0])).length) Slot.unset).toArray = ls at hl ⊢
  have hl : lv_has ls 4 [(0, .ref (a 0)), (1, .int x), (2, .int k0), (3, .int b0)] := hl
  refine lv_aload_n hx hb dM_port_0 rfl (lv_at hl 0 rfl) ?_
  refine lv_iconst (v := 0) hx hb dM_port_1 (by decide) ?_
  refine va_put (D := G) (ci := 1) (v := .int 0) (ty := .int) (C := RX1) (T := TM) (N := 18) hx hb hts hfi tyM tyM_ok nmM hown hK hP hD hS 0 rfl rfl 0 (by decide) (hts (.fieldLink RX1 54 "PortRulesModel" "code" "I") (by decide +kernel)) (fun _ h9 => h9) rfl (by decide +kernel) rfl rfl (Nat.le_of_ble_eq_true rfl) dM_port_2 (fun H locs hP hD hS => ?_)
  have hP : va_P G vwC2 (mW cA a (mnp V, mnq V, 0, mkn V, mf V, mg V)) H := hP
  have hD : va_D (mu_A (mW cA a V)) (mW cA a (mnp V, mnq V, 0, mkn V, mf V, mg V)) := hD
  refine lv_iload_n hx hb dM_port_5 rfl (lv_at hl 1 rfl) ?_
  refine lv_i2l (v := x.toInt64) hx hb dM_port_6 (rfl) ?_
  refine lv_lconst (v := 1) hx hb dM_port_7 (by decide) ?_
  refine lv_aload_n hx hb dM_port_8 rfl (lv_at hl 0 rfl) ?_
  refine va_get (D := G) (ci := 1) (v := .int (nI (mnp V))) (C := RX1) (T := TM) (N := 18) hx hb hts hfi hown hK hP 0 rfl rfl 1 (by decide) (hts (.fieldLink RX1 58 "PortRulesModel" "parts" "I") (by decide +kernel)) (fun _ h9 => h9) rfl dM_port_9 ?_
  refine lv_i2l (v := (nI (mnp V)).toInt64) hx hb dM_port_12 (rfl) ?_
  refine rd_callS (As := [.long (x.toInt64), .long 1, .long ((nI (mnp V)).toInt64)]) (rest := []) ⟨hx, hb, hml, hown, hts⟩ (cm_isIn l x.toInt64 1 ((nI (mnp V)).toInt64)) (va_cwS 3 hts gM_port_M_isIn rfl rfl rfl (by decide +kernel) ⟨Nat.le_of_ble_eq_true rfl, Nat.le_of_ble_eq_true rfl⟩) rfl hl.1 rfl (Nat.le_of_ble_eq_true rfl) dM_port_13 ⟨Nat.zero_le _, Nat.zero_le _⟩ ?_
  refine rd_topi (y := z1 (inB x 1 (mnp V))) (z1_ne (isI_b (by decide) (ni_l (show mnp V < 2 ^ 31 by omega)))) ?_
  refine bb_ne (b := (inB x 1 (mnp V))) (tgt := 21) hx hb dM_port_16 (by decide) (fun c16 => ?_) (fun c16 => ?_)
  · refine lv_iload_n hx hb dM_port_21 rfl (lv_at hl 2 rfl) ?_
    refine lv_i2l (v := k0.toInt64) hx hb dM_port_22 (rfl) ?_
    refine lv_lconst (v := 0) hx hb dM_port_23 (by decide) ?_
    refine lv_ldc2 (v := 3) hx hb hown (hts (.constantLong RX1 69 3) (by decide +kernel)) dM_port_24 ?_
    refine rd_callS (As := [.long (k0.toInt64), .long 0, .long 3]) (rest := []) ⟨hx, hb, hml, hown, hts⟩ (cm_isIn l k0.toInt64 0 3) (va_cwS 3 hts gM_port_M_isIn rfl rfl rfl (by decide +kernel) ⟨Nat.le_of_ble_eq_true rfl, Nat.le_of_ble_eq_true rfl⟩) rfl hl.1 rfl (Nat.le_of_ble_eq_true rfl) dM_port_27 ⟨Nat.zero_le _, Nat.zero_le _⟩ ?_
    refine rd_topi (y := z1 (inB k0 0 3)) (z1_ne (isI_b (by decide) (by decide))) ?_
    refine bb_ne (b := (inB k0 0 3)) (tgt := 36) hx hb dM_port_30 (by decide) (fun c30 => ?_) (fun c30 => ?_)
    · refine lv_aload_n hx hb dM_port_36 rfl (lv_at hl 0 rfl) ?_
      refine va_get (D := G) (ci := 1) (v := .int (nI (mnq V))) (C := RX1) (T := TM) (N := 18) hx hb hts hfi hown hK hP 0 rfl rfl 3 (by decide) (hts (.fieldLink RX1 71 "PortRulesModel" "ports" "I") (by decide +kernel)) (fun _ h9 => h9) rfl dM_port_37 ?_
      refine lv_bipush (v := nI 60) hx hb dM_port_40 (by decide) ?_
      refine nb_ne (tgt := 48) hx hb dM_port_42 (by decide) (by omega) (by omega) (fun c42 => ?_) (fun c42 => ?_)
      · refine lv_aload_n hx hb dM_port_48 rfl (lv_at hl 0 rfl) ?_
        refine lv_dup hx hb dM_port_49 rfl ?_
        refine va_get (D := G) (ci := 1) (v := .int (nI (mnq V))) (C := RX1) (T := TM) (N := 18) hx hb hts hfi hown hK hP 0 rfl rfl 3 (by decide) (hts (.fieldLink RX1 71 "PortRulesModel" "ports" "I") (by decide +kernel)) (fun _ h9 => h9) rfl dM_port_50 ?_
        refine lv_iconst (v := 1) hx hb dM_port_53 (by decide) ?_
        refine lv_iadd hx hb dM_port_54 ?_
        refine rd_topi (y := nI (mnq V + 1)) (nI_1 _) ?_
        refine va_put (D := G) (ci := 1) (v := .int (nI (mnq V + 1))) (ty := .int) (C := RX1) (T := TM) (N := 18) hx hb hts hfi tyM tyM_ok nmM hown hK hP hD hS 0 rfl rfl 3 (by decide) (hts (.fieldLink RX1 71 "PortRulesModel" "ports" "I") (by decide +kernel)) (fun _ h9 => h9) rfl (by decide +kernel) rfl rfl (Nat.le_of_ble_eq_true rfl) dM_port_55 (fun H locs hP hD hS => ?_)
        have hP : va_P G vwC2 (mW cA a (mnp V, mnq V + 1, 0, mkn V, mf V, mg V)) H := hP
        have hD : va_D (mu_A (mW cA a V)) (mW cA a (mnp V, mnq V + 1, 0, mkn V, mf V, mg V)) := hD
        refine lv_aload_n hx hb dM_port_58 rfl (lv_at hl 0 rfl) ?_
        refine va_get (D := G) (ci := 1) (v := .ref (a 4)) (C := RX1) (T := TM) (N := 18) hx hb hts hfi hown hK hP 0 rfl rfl 4 (by decide) (hts (.fieldLink RX1 13 "PortRulesModel" "partOf" "[I") (by decide +kernel)) (fun _ h9 => h9) rfl dM_port_59 ?_
        refine lv_aload_n hx hb dM_port_62 rfl (lv_at hl 0 rfl) ?_
        refine va_get (D := G) (ci := 1) (v := .int (nI (mnq V + 1))) (C := RX1) (T := TM) (N := 18) hx hb hts hfi hown hK hP 0 rfl rfl 3 (by decide) (hts (.fieldLink RX1 71 "PortRulesModel" "ports" "I") (by decide +kernel)) (fun _ h9 => h9) rfl dM_port_63 ?_
        refine lv_iload_n hx hb dM_port_66 rfl (lv_at hl 1 rfl) ?_
        refine mu_iast hx hb hK hP hD hS 2 0 rfl rfl (by omega) (by decide) dM_port_67 (ws1 := mW cA a (mnp V, mnq V + 1, 0, mkn V, va_up (mf V) 4 (upd (mf V 4) (mnq V + 1) x), mg V)) rfl (fun H locs hP hD hS => ?_)
        refine lv_aload_n hx hb dM_port_68 rfl (lv_at hl 0 rfl) ?_
        refine va_get (D := G) (ci := 1) (v := .ref (a 5)) (C := RX1) (T := TM) (N := 18) hx hb hts hfi hown hK hP 0 rfl rfl 5 (by decide) (hts (.fieldLink RX1 16 "PortRulesModel" "kindOf" "[I") (by decide +kernel)) (fun _ h9 => h9) rfl dM_port_69 ?_
        refine lv_aload_n hx hb dM_port_72 rfl (lv_at hl 0 rfl) ?_
        refine va_get (D := G) (ci := 1) (v := .int (nI (mnq V + 1))) (C := RX1) (T := TM) (N := 18) hx hb hts hfi hown hK hP 0 rfl rfl 3 (by decide) (hts (.fieldLink RX1 71 "PortRulesModel" "ports" "I") (by decide +kernel)) (fun _ h9 => h9) rfl dM_port_73 ?_
        refine lv_iload_n hx hb dM_port_76 rfl (lv_at hl 2 rfl) ?_
        refine mu_iast hx hb hK hP hD hS 3 0 rfl rfl (by omega) (by decide) dM_port_77 (ws1 := mW cA a (mnp V, mnq V + 1, 0, mkn V, va_up (va_up (mf V) 4 (upd (mf V 4) (mnq V + 1) x)) 5 (upd (mf V 5) (mnq V + 1) k0), mg V)) rfl (fun H locs hP hD hS => ?_)
        refine lv_aload_n hx hb dM_port_78 rfl (lv_at hl 0 rfl) ?_
        refine va_get (D := G) (ci := 1) (v := .ref (a 6)) (C := RX1) (T := TM) (N := 18) hx hb hts hfi hown hK hP 0 rfl rfl 6 (by decide) (hts (.fieldLink RX1 19 "PortRulesModel" "provides" "[Z") (by decide +kernel)) (fun _ h9 => h9) rfl dM_port_79 ?_
        refine lv_aload_n hx hb dM_port_82 rfl (lv_at hl 0 rfl) ?_
        refine va_get (D := G) (ci := 1) (v := .int (nI (mnq V + 1))) (C := RX1) (T := TM) (N := 18) hx hb hts hfi hown hK hP 0 rfl rfl 3 (by decide) (hts (.fieldLink RX1 71 "PortRulesModel" "ports" "I") (by decide +kernel)) (fun _ h9 => h9) rfl dM_port_83 ?_
        refine lv_iload_n hx hb dM_port_86 rfl (lv_at hl 3 rfl) ?_
        refine mu_zast hx hb hK hP hD hS 4 1 rfl rfl (by omega) (by decide) hnb dM_port_87 (ws1 := mW cA a (mnp V, mnq V + 1, 0, mkn V, va_up (va_up (va_up (mf V) 4 (upd (mf V 4) (mnq V + 1) x)) 5 (upd (mf V 5) (mnq V + 1) k0)) 6 (upd (mf V 6) (mnq V + 1) b0), mg V)) rfl (fun H locs hP hD hS => ?_)
        refine lv_aload_n hx hb dM_port_88 rfl (lv_at hl 0 rfl) ?_
        refine va_get (D := G) (ci := 1) (v := .ref (a 7)) (C := RX1) (T := TM) (N := 18) hx hb hts hfi hown hK hP 0 rfl rfl 7 (by decide) (hts (.fieldLink RX1 23 "PortRulesModel" "unit" "[I") (by decide +kernel)) (fun _ h9 => h9) rfl dM_port_89 ?_
        refine lv_aload_n hx hb dM_port_92 rfl (lv_at hl 0 rfl) ?_
        refine va_get (D := G) (ci := 1) (v := .int (nI (mnq V + 1))) (C := RX1) (T := TM) (N := 18) hx hb hts hfi hown hK hP 0 rfl rfl 3 (by decide) (hts (.fieldLink RX1 71 "PortRulesModel" "ports" "I") (by decide +kernel)) (fun _ h9 => h9) rfl dM_port_93 ?_
        refine lv_iconst (v := -1) hx hb dM_port_96 (by decide) ?_
        refine mu_iast hx hb hK hP hD hS 5 0 rfl rfl (by omega) (by decide) dM_port_97 (ws1 := mW cA a (mnp V, mnq V + 1, 0, mkn V, va_up (va_up (va_up (va_up (mf V) 4 (upd (mf V 4) (mnq V + 1) x)) 5 (upd (mf V 5) (mnq V + 1) k0)) 6 (upd (mf V 6) (mnq V + 1) b0)) 7 (upd (mf V 7) (mnq V + 1) (-1)), mg V)) rfl (fun H locs hP hD hS => ?_)
        refine lv_aload_n hx hb dM_port_98 rfl (lv_at hl 0 rfl) ?_
        refine va_get (D := G) (ci := 1) (v := .ref (a 10)) (C := RX1) (T := TM) (N := 18) hx hb hts hfi hown hK hP 0 rfl rfl 10 (by decide) (hts (.fieldLink RX1 33 "PortRulesModel" "version" "[I") (by decide +kernel)) (fun _ h9 => h9) rfl dM_port_99 ?_
        refine lv_aload_n hx hb dM_port_102 rfl (lv_at hl 0 rfl) ?_
        refine va_get (D := G) (ci := 1) (v := .int (nI (mnq V + 1))) (C := RX1) (T := TM) (N := 18) hx hb hts hfi hown hK hP 0 rfl rfl 3 (by decide) (hts (.fieldLink RX1 71 "PortRulesModel" "ports" "I") (by decide +kernel)) (fun _ h9 => h9) rfl dM_port_103 ?_
        refine lv_iconst (v := -1) hx hb dM_port_106 (by decide) ?_
        refine mu_iast hx hb hK hP hD hS 8 0 rfl rfl (by omega) (by decide) dM_port_107 (ws1 := mW cA a (mnp V, mnq V + 1, 0, mkn V, va_up (va_up (va_up (va_up (va_up (mf V) 4 (upd (mf V 4) (mnq V + 1) x)) 5 (upd (mf V 5) (mnq V + 1) k0)) 6 (upd (mf V 6) (mnq V + 1) b0)) 7 (upd (mf V 7) (mnq V + 1) (-1))) 10 (upd (mf V 10) (mnq V + 1) (-1)), mg V)) rfl (fun H locs hP hD hS => ?_)
        refine lv_aload_n hx hb dM_port_108 rfl (lv_at hl 0 rfl) ?_
        refine lv_iconst (v := 0) hx hb dM_port_109 (by decide) ?_
        refine va_put (D := G) (ci := 1) (v := .int 0) (ty := .boolean) (C := RX1) (T := TM) (N := 18) hx hb hts hfi tyM tyM_ok nmM hown hK hP hD hS 0 rfl rfl 17 (by decide) (hts (.fieldLink RX1 65 "PortRulesModel" "known" "Z") (by decide +kernel)) (fun _ h9 => h9) rfl (by decide +kernel) rfl rfl (Nat.le_of_ble_eq_true rfl) dM_port_110 (fun H locs hP hD hS => ?_)
        have hP : va_P G vwC2 (mW cA a (mnp V, mnq V + 1, 0, 0, va_up (va_up (va_up (va_up (va_up (mf V) 4 (upd (mf V 4) (mnq V + 1) x)) 5 (upd (mf V 5) (mnq V + 1) k0)) 6 (upd (mf V 6) (mnq V + 1) b0)) 7 (upd (mf V 7) (mnq V + 1) (-1))) 10 (upd (mf V 10) (mnq V + 1) (-1)), mg V)) H := hP
        have hD : va_D (mu_A (mW cA a V)) (mW cA a (mnp V, mnq V + 1, 0, 0, va_up (va_up (va_up (va_up (va_up (mf V) 4 (upd (mf V 4) (mnq V + 1) x)) 5 (upd (mf V 5) (mnq V + 1) k0)) 6 (upd (mf V 6) (mnq V + 1) b0)) 7 (upd (mf V 7) (mnq V + 1) (-1))) 10 (upd (mf V 10) (mnq V + 1) (-1)), mg V)) := hD
        refine lv_aload_n hx hb dM_port_113 rfl (lv_at hl 0 rfl) ?_
        refine va_get (D := G) (ci := 1) (v := .int (nI (mnq V + 1))) (C := RX1) (T := TM) (N := 18) hx hb hts hfi hown hK hP 0 rfl rfl 3 (by decide) (hts (.fieldLink RX1 71 "PortRulesModel" "ports" "I") (by decide +kernel)) (fun _ h9 => h9) rfl dM_port_114 ?_
        have hE : mPort V x k0 b0 = (nI (mnq V + 1), (mnp V, mnq V + 1, 0, 0, va_up (va_up (va_up (va_up (va_up (mf V) 4 (upd (mf V 4) (mnq V + 1) x)) 5 (upd (mf V 5) (mnq V + 1) k0)) 6 (upd (mf V 6) (mnq V + 1) b0)) 7 (upd (mf V 7) (mnq V + 1) (-1))) 10 (upd (mf V 10) (mnq V + 1) (-1)), mg V)) := by unfold mPort; rw [if_pos c16, if_pos c30, if_neg c42]; try rfl
        exact mu_iret ((mnp V, mnq V + 1, 0, 0, va_up (va_up (va_up (va_up (va_up (mf V) 4 (upd (mf V 4) (mnq V + 1) x)) 5 (upd (mf V 5) (mnq V + 1) k0)) 6 (upd (mf V 6) (mnq V + 1) b0)) 7 (upd (mf V 7) (mnq V + 1) (-1))) 10 (upd (mf V 10) (mnq V + 1) (-1)), mg V)) hx hb hr hS hP (by rw [hE]) (by rw [hE]) dM_port_117 hlocks
      · refine lv_bipush (v := -4) hx hb dM_port_45 (by decide) ?_
        have hE : mPort V x k0 b0 = (-4, (mnp V, mnq V, 0, mkn V, mf V, mg V)) := by unfold mPort; rw [if_pos c16, if_pos c30, if_pos c42]; try rfl
        exact mu_iret ((mnp V, mnq V, 0, mkn V, mf V, mg V)) hx hb hr hS hP (by rw [hE]) (by rw [hE]) dM_port_47 hlocks
    · refine lv_bipush (v := -2) hx hb dM_port_33 (by decide) ?_
      have hE : mPort V x k0 b0 = (-2, (mnp V, mnq V, 0, mkn V, mf V, mg V)) := by unfold mPort; rw [if_pos c16, if_neg (by rw [c30]; decide)]; try rfl
      exact mu_iret ((mnp V, mnq V, 0, mkn V, mf V, mg V)) hx hb hr hS hP (by rw [hE]) (by rw [hE]) dM_port_35 hlocks
  · refine lv_iconst (v := -1) hx hb dM_port_19 (by decide) ?_
    have hE : mPort V x k0 b0 = (-1, (mnp V, mnq V, 0, mkn V, mf V, mg V)) := by unfold mPort; rw [if_neg (by rw [c16]; decide)]; try rfl
    exact mu_iret ((mnp V, mnq V, 0, mkn V, mf V, mg V)) hx hb hr hS hP (by rw [hE]) (by rw [hE]) dM_port_20 hlocks
set_option maxHeartbeats 4000000 in
set_option maxRecDepth 100000 in
theorem cm_unit (l : Launch) (G : va_G) (cA : Nat → ClassId) (a : Nat → Nat) (V : MV) (x u0 : Int32) (y z : Int64) (h60 : mnq V ≤ 60) : Met l yM_unit wsM_unit { frames := 2, cells := 0, slots := 0, locals := 46 } (mu_Pc G vwC2 (tT cA) (mW cA a V) [.ref (a 0), .int x, .int u0, .long y, .long z]) (mu_Q G vwC2 (mW cA a V) (fun _ => some (.int ((mUnit V x u0 y z).1))) (fun u9 : MV => u9 = (mUnit V x u0 y z).2) (fun u9 => mW cA a u9)) 0 0 (mu_A (mW cA a V)) := by
  refine Met.ofW (cc := cM_unit) (maxL := 7) (ret := some .int) (by decide) rfl ?_
  intro p e s m args below meth c s₁ B hml hv
  obtain ⟨rfl, hP, hK, hD0⟩ := hv
  have hx := B.exec
  have hb := B.bytes
  have hr := B.returns
  have hts := atoms_spec (ws := wsM_unit) B.pre
  have hown : s.vm.findClass RX1 = some m.cls := findClass_of_methodNamed B.named
  have hlocks := B.notSynchronized
  have hD := mu_own hD0
  have hS : va_S (mu_A (mW cA a V)) s.heap s.heap [] := va_S.rf
  have hfi : ∀ w ∈ u_ws RX1 TM 18, w ∈ wsM_unit := fun w h => List.mem_cons_of_mem _ (wMA_f w h)
  have hl := lv_entry ([.ref (a 0), .int x, .int u0, .long y, .long z]) (n := 7) (Nat.le_of_ble_eq_true rfl)
  rw [lg_entry_eq]
  generalize (lg_sl ([.ref (a 0), .int x, .int u0, .long y, .long z]) ++ List.replicate (7 - (lg_sl ([.ref (a 0), .int x, .int u0, .long y, .long z])).length) Slot.unset).toArray = ls at hl ⊢
  have hl : lv_has ls 7 [(0, .ref (a 0)), (1, .int x), (2, .int u0), (3, .long y), (5, .long z)] := hl
  refine lv_aload_n hx hb dM_unit_0 rfl (lv_at hl 0 rfl) ?_
  refine lv_iconst (v := 0) hx hb dM_unit_1 (by decide) ?_
  refine va_put (D := G) (ci := 1) (v := .int 0) (ty := .int) (C := RX1) (T := TM) (N := 18) hx hb hts hfi tyM tyM_ok nmM hown hK hP hD hS 0 rfl rfl 0 (by decide) (hts (.fieldLink RX1 54 "PortRulesModel" "code" "I") (by decide +kernel)) (fun _ h9 => h9) rfl (by decide +kernel) rfl rfl (Nat.le_of_ble_eq_true rfl) dM_unit_2 (fun H locs hP hD hS => ?_)
  have hP : va_P G vwC2 (mW cA a (mnp V, mnq V, 0, mkn V, mf V, mg V)) H := hP
  have hD : va_D (mu_A (mW cA a V)) (mW cA a (mnp V, mnq V, 0, mkn V, mf V, mg V)) := hD
  refine lv_aload_n hx hb dM_unit_5 rfl (lv_at hl 0 rfl) ?_
  refine lv_iload_n hx hb dM_unit_6 rfl (lv_at hl 1 rfl) ?_
  refine rd_callV (As := [.int x]) (rest := []) (b := a 0) (q0 := 0) (ci := 1) ⟨hx, hb, hml, hown, hts⟩ (cm_isPort l G cA a ((mnp V, mnq V, 0, mkn V, mf V, mg V)) x h60) (cwV 1 hts gM_unit_M_isPort rfl rfl rfl (by decide +kernel) ⟨Nat.le_of_ble_eq_true rfl, Nat.le_of_ble_eq_true rfl⟩) hK hP rfl rfl rfl rfl hl.1 rfl (Nat.le_of_ble_eq_true rfl) dM_unit_7 ⟨Nat.zero_le _, Nat.zero_le _⟩ ?_
  refine bb_ne (b := (inB x 1 (mnq V))) (tgt := 15) hx hb dM_unit_10 (by decide) (fun c10 => ?_) (fun c10 => ?_)
  · obtain ⟨p0, hp01, hp02, rfl⟩ := inB_nI (by omega) c10
    refine lv_iload_n hx hb dM_unit_15 rfl (lv_at hl 2 rfl) ?_
    refine lv_i2l (v := u0.toInt64) hx hb dM_unit_16 (rfl) ?_
    refine lv_lconst (v := 0) hx hb dM_unit_17 (by decide) ?_
    refine lv_ldc2 (v := 20) hx hb hown (hts (.constantLong RX1 78 20) (by decide +kernel)) dM_unit_18 ?_
    refine rd_callS (As := [.long (u0.toInt64), .long 0, .long 20]) (rest := []) ⟨hx, hb, hml, hown, hts⟩ (cm_isIn l u0.toInt64 0 20) (va_cwS 3 hts gM_unit_M_isIn rfl rfl rfl (by decide +kernel) ⟨Nat.le_of_ble_eq_true rfl, Nat.le_of_ble_eq_true rfl⟩) rfl hl.1 rfl (Nat.le_of_ble_eq_true rfl) dM_unit_21 ⟨Nat.zero_le _, Nat.zero_le _⟩ ?_
    refine rd_topi (y := z1 (inB u0 0 20)) (z1_ne (isI_b (by decide) (by decide))) ?_
    refine bb_eq (b := (inB u0 0 20)) (tgt := 50) hx hb dM_unit_24 (by decide) (fun c24 => ?_) (fun c24 => ?_)
    · refine lv_bipush (v := -2) hx hb dM_unit_50 (by decide) ?_
      have hE : mUnit V (nI p0) u0 y z = (-2, (mnp V, mnq V, 0, mkn V, mf V, mg V)) := by unfold mUnit; rw [if_pos c10, if_neg (fun h => by rw [c24] at h; exact absurd h.1 (by decide))]; try rfl
      exact mu_iret ((mnp V, mnq V, 0, mkn V, mf V, mg V)) hx hb hr hS hP (by rw [hE]) (by rw [hE]) dM_unit_52 hlocks
    · refine lv_lload_n hx hb dM_unit_27 rfl (lv_at hl 3 rfl) ?_
      refine lv_lconst (v := 1) hx hb dM_unit_28 (by decide) ?_
      refine lv_ldc2 (v := 1000) hx hb hown (hts (.constantLong RX1 80 1000) (by decide +kernel)) dM_unit_29 ?_
      refine rd_callS (As := [.long y, .long 1, .long 1000]) (rest := []) ⟨hx, hb, hml, hown, hts⟩ (cm_isIn l y 1 1000) (va_cwS 3 hts gM_unit_M_isIn rfl rfl rfl (by decide +kernel) ⟨Nat.le_of_ble_eq_true rfl, Nat.le_of_ble_eq_true rfl⟩) rfl hl.1 rfl (Nat.le_of_ble_eq_true rfl) dM_unit_32 ⟨Nat.zero_le _, Nat.zero_le _⟩ ?_
      refine rd_topi (y := z1 (inL y 1 1000)) (z1_ne (isI_l (by decide) (by decide))) ?_
      refine bb_eq (b := (inL y 1 1000)) (tgt := 50) hx hb dM_unit_35 (by decide) (fun c35 => ?_) (fun c35 => ?_)
      · refine lv_bipush (v := -2) hx hb dM_unit_50 (by decide) ?_
        have hE : mUnit V (nI p0) u0 y z = (-2, (mnp V, mnq V, 0, mkn V, mf V, mg V)) := by unfold mUnit; rw [if_pos c10, if_neg (fun h => by rw [c35] at h; exact absurd h.2.1 (by decide))]; try rfl
        exact mu_iret ((mnp V, mnq V, 0, mkn V, mf V, mg V)) hx hb hr hS hP (by rw [hE]) (by rw [hE]) dM_unit_52 hlocks
      · refine lv_lload hx hb dM_unit_38 (lv_at hl 4 rfl) ?_
        refine lv_lconst (v := 1) hx hb dM_unit_40 (by decide) ?_
        refine lv_ldc2 (v := 1000) hx hb hown (hts (.constantLong RX1 80 1000) (by decide +kernel)) dM_unit_41 ?_
        refine rd_callS (As := [.long z, .long 1, .long 1000]) (rest := []) ⟨hx, hb, hml, hown, hts⟩ (cm_isIn l z 1 1000) (va_cwS 3 hts gM_unit_M_isIn rfl rfl rfl (by decide +kernel) ⟨Nat.le_of_ble_eq_true rfl, Nat.le_of_ble_eq_true rfl⟩) rfl hl.1 rfl (Nat.le_of_ble_eq_true rfl) dM_unit_44 ⟨Nat.zero_le _, Nat.zero_le _⟩ ?_
        refine rd_topi (y := z1 (inL z 1 1000)) (z1_ne (isI_l (by decide) (by decide))) ?_
        refine bb_ne (b := (inL z 1 1000)) (tgt := 53) hx hb dM_unit_47 (by decide) (fun c47 => ?_) (fun c47 => ?_)
        · refine lv_aload_n hx hb dM_unit_53 rfl (lv_at hl 0 rfl) ?_
          refine va_get (D := G) (ci := 1) (v := .ref (a 7)) (C := RX1) (T := TM) (N := 18) hx hb hts hfi hown hK hP 0 rfl rfl 7 (by decide) (hts (.fieldLink RX1 23 "PortRulesModel" "unit" "[I") (by decide +kernel)) (fun _ h9 => h9) rfl dM_unit_54 ?_
          refine lv_iload_n hx hb dM_unit_57 rfl (lv_at hl 1 rfl) ?_
          refine lv_iload_n hx hb dM_unit_58 rfl (lv_at hl 2 rfl) ?_
          refine mu_iast hx hb hK hP hD hS 5 0 rfl rfl (by omega) (by decide) dM_unit_59 (ws1 := mW cA a (mnp V, mnq V, 0, mkn V, va_up (mf V) 7 (upd (mf V 7) p0 u0), mg V)) rfl (fun H locs hP hD hS => ?_)
          refine lv_aload_n hx hb dM_unit_60 rfl (lv_at hl 0 rfl) ?_
          refine va_get (D := G) (ci := 1) (v := .ref (a 8)) (C := RX1) (T := TM) (N := 18) hx hb hts hfi hown hK hP 0 rfl rfl 8 (by decide) (hts (.fieldLink RX1 26 "PortRulesModel" "up" "[J") (by decide +kernel)) (fun _ h9 => h9) rfl dM_unit_61 ?_
          refine lv_iload_n hx hb dM_unit_64 rfl (lv_at hl 1 rfl) ?_
          refine lv_lload_n hx hb dM_unit_65 rfl (lv_at hl 3 rfl) ?_
          refine mu_last hx hb hK hP hD hS 6 2 rfl rfl (by omega) (by decide) dM_unit_66 (ws1 := mW cA a (mnp V, mnq V, 0, mkn V, va_up (mf V) 7 (upd (mf V 7) p0 u0), va_up (mg V) 8 (vp_updL (mg V 8) p0 y))) rfl (fun H locs hP hD hS => ?_)
          refine lv_aload_n hx hb dM_unit_67 rfl (lv_at hl 0 rfl) ?_
          refine va_get (D := G) (ci := 1) (v := .ref (a 9)) (C := RX1) (T := TM) (N := 18) hx hb hts hfi hown hK hP 0 rfl rfl 9 (by decide) (hts (.fieldLink RX1 30 "PortRulesModel" "down" "[J") (by decide +kernel)) (fun _ h9 => h9) rfl dM_unit_68 ?_
          refine lv_iload_n hx hb dM_unit_71 rfl (lv_at hl 1 rfl) ?_
          refine lv_lload hx hb dM_unit_72 (lv_at hl 4 rfl) ?_
          refine mu_last hx hb hK hP hD hS 7 2 rfl rfl (by omega) (by decide) dM_unit_74 (ws1 := mW cA a (mnp V, mnq V, 0, mkn V, va_up (mf V) 7 (upd (mf V 7) p0 u0), va_up (va_up (mg V) 8 (vp_updL (mg V 8) p0 y)) 9 (vp_updL (mg V 9) p0 z))) rfl (fun H locs hP hD hS => ?_)
          refine lv_iconst (v := 1) hx hb dM_unit_75 (by decide) ?_
          have hE : mUnit V (nI p0) u0 y z = (1, (mnp V, mnq V, 0, mkn V, va_up (mf V) 7 (upd (mf V 7) p0 u0), va_up (va_up (mg V) 8 (vp_updL (mg V 8) p0 y)) 9 (vp_updL (mg V 9) p0 z))) := by unfold mUnit; rw [if_pos c10, if_pos ⟨c24, c35, c47⟩, nI_clamp (by omega)]; try rfl
          exact mu_iret ((mnp V, mnq V, 0, mkn V, va_up (mf V) 7 (upd (mf V 7) p0 u0), va_up (va_up (mg V) 8 (vp_updL (mg V 8) p0 y)) 9 (vp_updL (mg V 9) p0 z))) hx hb hr hS hP (by rw [hE]) (by rw [hE]) dM_unit_76 hlocks
        · refine lv_bipush (v := -2) hx hb dM_unit_50 (by decide) ?_
          have hE : mUnit V (nI p0) u0 y z = (-2, (mnp V, mnq V, 0, mkn V, mf V, mg V)) := by unfold mUnit; rw [if_pos c10, if_neg (fun h => by rw [c47] at h; exact absurd h.2.2 (by decide))]; try rfl
          exact mu_iret ((mnp V, mnq V, 0, mkn V, mf V, mg V)) hx hb hr hS hP (by rw [hE]) (by rw [hE]) dM_unit_52 hlocks
  · refine lv_iconst (v := -1) hx hb dM_unit_13 (by decide) ?_
    have hE : mUnit V x u0 y z = (-1, (mnp V, mnq V, 0, mkn V, mf V, mg V)) := by unfold mUnit; rw [if_neg (by rw [c10]; decide)]; try rfl
    exact mu_iret ((mnp V, mnq V, 0, mkn V, mf V, mg V)) hx hb hr hS hP (by rw [hE]) (by rw [hE]) dM_unit_14 hlocks
set_option maxHeartbeats 4000000 in
set_option maxRecDepth 100000 in
theorem cm_connect (l : Launch) (G : va_G) (cA : Nat → ClassId) (a : Nat → Nat) (V : MV) (x y : Int32) (hok : mOK V) : Met l yM_connect wsM_connect { frames := 2, cells := 0, slots := 0, locals := 46 } (mu_Pc G vwC2 (tT cA) (mW cA a V) [.ref (a 0), .int x, .int y]) (mu_Q G vwC2 (mW cA a V) (fun _ => some (.int ((mConn V x y).1))) (fun u9 : MV => u9 = (mConn V x y).2) (fun u9 => mW cA a u9)) 0 0 (mu_A (mW cA a V)) := by
  refine Met.ofW (cc := cM_connect) (maxL := 3) (ret := some .int) (by decide) rfl ?_
  intro p e s m args below meth c s₁ B hml hv
  obtain ⟨rfl, hP, hK, hD0⟩ := hv
  have hx := B.exec
  have hb := B.bytes
  have hr := B.returns
  have hts := atoms_spec (ws := wsM_connect) B.pre
  have hown : s.vm.findClass RX1 = some m.cls := findClass_of_methodNamed B.named
  have hlocks := B.notSynchronized
  have hD := mu_own hD0
  have hS : va_S (mu_A (mW cA a V)) s.heap s.heap [] := va_S.rf
  have hfi : ∀ w ∈ u_ws RX1 TM 18, w ∈ wsM_connect := fun w h => List.mem_cons_of_mem _ (wMA_f w h)
  have hl := lv_entry ([.ref (a 0), .int x, .int y]) (n := 3) (Nat.le_of_ble_eq_true rfl)
  rw [lg_entry_eq]
  generalize (lg_sl ([.ref (a 0), .int x, .int y]) ++ List.replicate (3 - (lg_sl ([.ref (a 0), .int x, .int y])).length) Slot.unset).toArray = ls at hl ⊢
  have hl : lv_has ls 3 [(0, .ref (a 0)), (1, .int x), (2, .int y)] := hl
  have h60 : mnq V ≤ 60 := hok.2.1
  have h30 : mnp V ≤ 30 := hok.1
  refine lv_aload_n hx hb dM_connect_0 rfl (lv_at hl 0 rfl) ?_
  refine lv_iconst (v := 0) hx hb dM_connect_1 (by decide) ?_
  refine va_put (D := G) (ci := 1) (v := .int 0) (ty := .int) (C := RX1) (T := TM) (N := 18) hx hb hts hfi tyM tyM_ok nmM hown hK hP hD hS 0 rfl rfl 0 (by decide) (hts (.fieldLink RX1 54 "PortRulesModel" "code" "I") (by decide +kernel)) (fun _ h9 => h9) rfl (by decide +kernel) rfl rfl (Nat.le_of_ble_eq_true rfl) dM_connect_2 (fun H locs hP hD hS => ?_)
  have hP : va_P G vwC2 (mW cA a (mnp V, mnq V, 0, mkn V, mf V, mg V)) H := hP
  have hD : va_D (mu_A (mW cA a V)) (mW cA a (mnp V, mnq V, 0, mkn V, mf V, mg V)) := hD
  refine lv_aload_n hx hb dM_connect_5 rfl (lv_at hl 0 rfl) ?_
  refine lv_iload_n hx hb dM_connect_6 rfl (lv_at hl 1 rfl) ?_
  refine rd_callV (As := [.int x]) (rest := []) (b := a 0) (q0 := 0) (ci := 1) ⟨hx, hb, hml, hown, hts⟩ (cm_isPort l G cA a ((mnp V, mnq V, 0, mkn V, mf V, mg V)) x h60) (cwV 1 hts gM_connect_M_isPort rfl rfl rfl (by decide +kernel) ⟨Nat.le_of_ble_eq_true rfl, Nat.le_of_ble_eq_true rfl⟩) hK hP rfl rfl rfl rfl hl.1 rfl (Nat.le_of_ble_eq_true rfl) dM_connect_7 ⟨Nat.zero_le _, Nat.zero_le _⟩ ?_
  refine bb_eq (b := (inB x 1 (mnq V))) (tgt := 21) hx hb dM_connect_10 (by decide) (fun c10 => ?_) (fun c10 => ?_)
  · refine lv_iconst (v := -1) hx hb dM_connect_21 (by decide) ?_
    have hE : mConn V x y = (-1, (mnp V, mnq V, 0, mkn V, mf V, mg V)) := by unfold mConn; rw [if_neg (fun h => by rw [c10] at h; exact absurd h.1 (by decide))]; try rfl
    exact mu_iret ((mnp V, mnq V, 0, mkn V, mf V, mg V)) hx hb hr hS hP (by rw [hE]) (by rw [hE]) dM_connect_22 hlocks
  · obtain ⟨p0, hp01, hp02, rfl⟩ := inB_nI (by omega) c10
    refine lv_aload_n hx hb dM_connect_13 rfl (lv_at hl 0 rfl) ?_
    refine lv_iload_n hx hb dM_connect_14 rfl (lv_at hl 2 rfl) ?_
    refine rd_callV (As := [.int y]) (rest := []) (b := a 0) (q0 := 0) (ci := 1) ⟨hx, hb, hml, hown, hts⟩ (cm_isPort l G cA a ((mnp V, mnq V, 0, mkn V, mf V, mg V)) y h60) (cwV 1 hts gM_connect_M_isPort rfl rfl rfl (by decide +kernel) ⟨Nat.le_of_ble_eq_true rfl, Nat.le_of_ble_eq_true rfl⟩) hK hP rfl rfl rfl rfl hl.1 rfl (Nat.le_of_ble_eq_true rfl) dM_connect_15 ⟨Nat.zero_le _, Nat.zero_le _⟩ ?_
    refine bb_ne (b := (inB y 1 (mnq V))) (tgt := 23) hx hb dM_connect_18 (by decide) (fun c18 => ?_) (fun c18 => ?_)
    · obtain ⟨q0, hq01, hq02, rfl⟩ := inB_nI (by omega) c18
      obtain ⟨u, hu1, hu2, eu⟩ := hok.2.2.1 p0 hp01 hp02
      obtain ⟨v, hv1, hv2, ev⟩ := hok.2.2.1 q0 hq01 hq02
      refine lv_aload_n hx hb dM_connect_23 rfl (lv_at hl 0 rfl) ?_
      refine va_get (D := G) (ci := 1) (v := .ref (a 5)) (C := RX1) (T := TM) (N := 18) hx hb hts hfi hown hK hP 0 rfl rfl 5 (by decide) (hts (.fieldLink RX1 16 "PortRulesModel" "kindOf" "[I") (by decide +kernel)) (fun _ h9 => h9) rfl dM_connect_24 ?_
      refine lv_iload_n hx hb dM_connect_27 rfl (lv_at hl 1 rfl) ?_
      refine rd_iald hx hb hK hP 3 0 rfl rfl (by omega) (by decide) dM_connect_28 ?_
      refine lv_aload_n hx hb dM_connect_29 rfl (lv_at hl 0 rfl) ?_
      refine va_get (D := G) (ci := 1) (v := .ref (a 5)) (C := RX1) (T := TM) (N := 18) hx hb hts hfi hown hK hP 0 rfl rfl 5 (by decide) (hts (.fieldLink RX1 16 "PortRulesModel" "kindOf" "[I") (by decide +kernel)) (fun _ h9 => h9) rfl dM_connect_30 ?_
      refine lv_iload_n hx hb dM_connect_33 rfl (lv_at hl 2 rfl) ?_
      refine rd_iald hx hb hK hP 3 0 rfl rfl (by omega) (by decide) dM_connect_34 ?_
      refine lv_icmp_ne (tgt := 47) hx hb dM_connect_35 (by decide) (fun c35 => ?_) (fun c35 => ?_)
      · refine lv_bipush (v := -2) hx hb dM_connect_47 (by decide) ?_
        have hE : mConn V (nI p0) (nI q0) = (-2, (mnp V, mnq V, 0, mkn V, mf V, mg V)) := by unfold mConn; rw [if_pos ⟨c10, c18⟩, nI_clamp (show p0 < 2 ^ 31 by omega), nI_clamp (show q0 < 2 ^ 31 by omega), eu, ev, nI_clamp (show u < 2 ^ 31 by omega), nI_clamp (show v < 2 ^ 31 by omega), if_neg (fun h => c35 h.1)]; try rfl
        exact mu_iret ((mnp V, mnq V, 0, mkn V, mf V, mg V)) hx hb hr hS hP (by rw [hE]) (by rw [hE]) dM_connect_49 hlocks
      · refine lv_aload_n hx hb dM_connect_38 rfl (lv_at hl 0 rfl) ?_
        refine lv_iload_n hx hb dM_connect_39 rfl (lv_at hl 1 rfl) ?_
        refine lv_iload_n hx hb dM_connect_40 rfl (lv_at hl 2 rfl) ?_
        refine rd_callV (As := [.int (nI p0), .int (nI q0)]) (rest := []) (b := a 0) (q0 := 0) (ci := 1) ⟨hx, hb, hml, hown, hts⟩ (cm_isWay l G cA a ((mnp V, mnq V, 0, mkn V, mf V, mg V)) p0 q0 u v (by omega) (by omega) (by omega) (by omega) eu ev) (cwV 2 hts gM_connect_M_isWay rfl rfl rfl (by decide +kernel) ⟨Nat.le_of_ble_eq_true rfl, Nat.le_of_ble_eq_true rfl⟩) hK hP rfl rfl rfl rfl hl.1 rfl (Nat.le_of_ble_eq_true rfl) dM_connect_41 ⟨Nat.zero_le _, Nat.zero_le _⟩ ?_
        refine bb_ne (b := (mWay V p0 q0 u v)) (tgt := 50) hx hb dM_connect_44 (by decide) (fun c44 => ?_) (fun c44 => ?_)
        · refine lv_aload_n hx hb dM_connect_50 rfl (lv_at hl 0 rfl) ?_
          refine va_get (D := G) (ci := 1) (v := .ref (a 15)) (C := RX1) (T := TM) (N := 18) hx hb hts hfi hown hK hP 0 rfl rfl 15 (by decide) (hts (.fieldLink RX1 48 "PortRulesModel" "leads" "[Z") (by decide +kernel)) (fun _ h9 => h9) rfl dM_connect_51 ?_
          refine lv_bipush (v := nI 61) hx hb dM_connect_54 (by decide) ?_
          refine lv_iload_n hx hb dM_connect_56 rfl (lv_at hl 1 rfl) ?_
          refine lv_imul hx hb dM_connect_57 ?_
          refine rd_topi (y := nI (61 * p0)) (pk_mul _ _) ?_
          refine lv_iload_n hx hb dM_connect_58 rfl (lv_at hl 2 rfl) ?_
          refine lv_iadd hx hb dM_connect_59 ?_
          refine rd_topi (y := nI (61 * p0 + q0)) (nI_add _ _) ?_
          refine rd_zald hx hb hK hP 13 1 rfl rfl (by omega) (by decide) dM_connect_60 ?_
          refine lv_if_eq (tgt := 66) hx hb dM_connect_61 (by decide) (fun c61 => ?_) (fun c61 => ?_)
          · refine lv_aload_n hx hb dM_connect_66 rfl (lv_at hl 0 rfl) ?_
            refine va_get (D := G) (ci := 1) (v := .ref (a 15)) (C := RX1) (T := TM) (N := 18) hx hb hts hfi hown hK hP 0 rfl rfl 15 (by decide) (hts (.fieldLink RX1 48 "PortRulesModel" "leads" "[Z") (by decide +kernel)) (fun _ h9 => h9) rfl dM_connect_67 ?_
            refine lv_bipush (v := nI 61) hx hb dM_connect_70 (by decide) ?_
            refine lv_iload_n hx hb dM_connect_72 rfl (lv_at hl 1 rfl) ?_
            refine lv_imul hx hb dM_connect_73 ?_
            refine rd_topi (y := nI (61 * p0)) (pk_mul _ _) ?_
            refine lv_iload_n hx hb dM_connect_74 rfl (lv_at hl 2 rfl) ?_
            refine lv_iadd hx hb dM_connect_75 ?_
            refine rd_topi (y := nI (61 * p0 + q0)) (nI_add _ _) ?_
            refine lv_iconst (v := 1) hx hb dM_connect_76 (by decide) ?_
            refine mu_zast hx hb hK hP hD hS 13 1 rfl rfl (by omega) (by decide) rfl dM_connect_77 (ws1 := mW cA a (mnp V, mnq V, 0, mkn V, va_up (mf V) 15 (upd (mf V 15) (61 * p0 + q0) 1), mg V)) rfl (fun H locs hP hD hS => ?_)
            refine lv_aload_n hx hb dM_connect_78 rfl (lv_at hl 0 rfl) ?_
            refine lv_iconst (v := 0) hx hb dM_connect_79 (by decide) ?_
            refine va_put (D := G) (ci := 1) (v := .int 0) (ty := .boolean) (C := RX1) (T := TM) (N := 18) hx hb hts hfi tyM tyM_ok nmM hown hK hP hD hS 0 rfl rfl 17 (by decide) (hts (.fieldLink RX1 65 "PortRulesModel" "known" "Z") (by decide +kernel)) (fun _ h9 => h9) rfl (by decide +kernel) rfl rfl (Nat.le_of_ble_eq_true rfl) dM_connect_80 (fun H locs hP hD hS => ?_)
            have hP : va_P G vwC2 (mW cA a (mnp V, mnq V, 0, 0, va_up (mf V) 15 (upd (mf V 15) (61 * p0 + q0) 1), mg V)) H := hP
            have hD : va_D (mu_A (mW cA a V)) (mW cA a (mnp V, mnq V, 0, 0, va_up (mf V) 15 (upd (mf V 15) (61 * p0 + q0) 1), mg V)) := hD
            refine lv_iconst (v := 1) hx hb dM_connect_83 (by decide) ?_
            have hE : mConn V (nI p0) (nI q0) = (1, (mnp V, mnq V, 0, 0, va_up (mf V) 15 (upd (mf V 15) (61 * p0 + q0) 1), mg V)) := by unfold mConn; rw [if_pos ⟨c10, c18⟩, nI_clamp (show p0 < 2 ^ 31 by omega), nI_clamp (show q0 < 2 ^ 31 by omega), eu, ev, nI_clamp (show u < 2 ^ 31 by omega), nI_clamp (show v < 2 ^ 31 by omega), if_pos ⟨c35, c44⟩, if_pos c61]; try rfl
            exact mu_iret ((mnp V, mnq V, 0, 0, va_up (mf V) 15 (upd (mf V 15) (61 * p0 + q0) 1), mg V)) hx hb hr hS hP (by rw [hE]) (by rw [hE]) dM_connect_84 hlocks
          · refine lv_iconst (v := 0) hx hb dM_connect_64 (by decide) ?_
            have hE : mConn V (nI p0) (nI q0) = (0, (mnp V, mnq V, 0, mkn V, mf V, mg V)) := by unfold mConn; rw [if_pos ⟨c10, c18⟩, nI_clamp (show p0 < 2 ^ 31 by omega), nI_clamp (show q0 < 2 ^ 31 by omega), eu, ev, nI_clamp (show u < 2 ^ 31 by omega), nI_clamp (show v < 2 ^ 31 by omega), if_pos ⟨c35, c44⟩, if_neg c61]; try rfl
            exact mu_iret ((mnp V, mnq V, 0, mkn V, mf V, mg V)) hx hb hr hS hP (by rw [hE]) (by rw [hE]) dM_connect_65 hlocks
        · refine lv_bipush (v := -2) hx hb dM_connect_47 (by decide) ?_
          have hE : mConn V (nI p0) (nI q0) = (-2, (mnp V, mnq V, 0, mkn V, mf V, mg V)) := by unfold mConn; rw [if_pos ⟨c10, c18⟩, nI_clamp (show p0 < 2 ^ 31 by omega), nI_clamp (show q0 < 2 ^ 31 by omega), eu, ev, nI_clamp (show u < 2 ^ 31 by omega), nI_clamp (show v < 2 ^ 31 by omega), if_neg (fun h => by rw [c44] at h; exact absurd h.2 (by decide))]; try rfl
          exact mu_iret ((mnp V, mnq V, 0, mkn V, mf V, mg V)) hx hb hr hS hP (by rw [hE]) (by rw [hE]) dM_connect_49 hlocks
    · refine lv_iconst (v := -1) hx hb dM_connect_21 (by decide) ?_
      have hE : mConn V (nI p0) y = (-1, (mnp V, mnq V, 0, mkn V, mf V, mg V)) := by unfold mConn; rw [if_neg (fun h => by rw [c18] at h; exact absurd h.2 (by decide))]; try rfl
      exact mu_iret ((mnp V, mnq V, 0, mkn V, mf V, mg V)) hx hb hr hS hP (by rw [hE]) (by rw [hE]) dM_connect_22 hlocks
set_option maxHeartbeats 4000000 in
set_option maxRecDepth 100000 in
theorem cm_manager (l : Launch) (G : va_G) (cA : Nat → ClassId) (a : Nat → Nat) (V : MV) (k0 x : Int32) (h30 : mnp V ≤ 30) : Met l yM_manager wsM_manager { frames := 1, cells := 0, slots := 0, locals := 25 } (mu_Pc G vwC2 (tT cA) (mW cA a V) [.ref (a 0), .int k0, .int x]) (mu_Q G vwC2 (mW cA a V) (fun _ => some (.int ((mMan V k0 x).1))) (fun u9 : MV => u9 = (mMan V k0 x).2) (fun u9 => mW cA a u9)) 0 0 (mu_A (mW cA a V)) := by
  refine Met.ofW (cc := cM_manager) (maxL := 3) (ret := some .int) (by decide) rfl ?_
  intro p e s m args below meth c s₁ B hml hv
  obtain ⟨rfl, hP, hK, hD0⟩ := hv
  have hx := B.exec
  have hb := B.bytes
  have hr := B.returns
  have hts := atoms_spec (ws := wsM_manager) B.pre
  have hown : s.vm.findClass RX1 = some m.cls := findClass_of_methodNamed B.named
  have hlocks := B.notSynchronized
  have hD := mu_own hD0
  have hS : va_S (mu_A (mW cA a V)) s.heap s.heap [] := va_S.rf
  have hfi : ∀ w ∈ u_ws RX1 TM 18, w ∈ wsM_manager := fun w h => List.mem_cons_of_mem _ (wMA_f w h)
  have hl := lv_entry ([.ref (a 0), .int k0, .int x]) (n := 3) (Nat.le_of_ble_eq_true rfl)
  rw [lg_entry_eq]
  generalize (lg_sl ([.ref (a 0), .int k0, .int x]) ++ List.replicate (3 - (lg_sl ([.ref (a 0), .int k0, .int x])).length) Slot.unset).toArray = ls at hl ⊢
  have hl : lv_has ls 3 [(0, .ref (a 0)), (1, .int k0), (2, .int x)] := hl
  refine lv_aload_n hx hb dM_manager_0 rfl (lv_at hl 0 rfl) ?_
  refine lv_iconst (v := 0) hx hb dM_manager_1 (by decide) ?_
  refine va_put (D := G) (ci := 1) (v := .int 0) (ty := .int) (C := RX1) (T := TM) (N := 18) hx hb hts hfi tyM tyM_ok nmM hown hK hP hD hS 0 rfl rfl 0 (by decide) (hts (.fieldLink RX1 54 "PortRulesModel" "code" "I") (by decide +kernel)) (fun _ h9 => h9) rfl (by decide +kernel) rfl rfl (Nat.le_of_ble_eq_true rfl) dM_manager_2 (fun H locs hP hD hS => ?_)
  have hP : va_P G vwC2 (mW cA a (mnp V, mnq V, 0, mkn V, mf V, mg V)) H := hP
  have hD : va_D (mu_A (mW cA a V)) (mW cA a (mnp V, mnq V, 0, mkn V, mf V, mg V)) := hD
  refine lv_iload_n hx hb dM_manager_5 rfl (lv_at hl 2 rfl) ?_
  refine lv_i2l (v := x.toInt64) hx hb dM_manager_6 (rfl) ?_
  refine lv_lconst (v := 1) hx hb dM_manager_7 (by decide) ?_
  refine lv_aload_n hx hb dM_manager_8 rfl (lv_at hl 0 rfl) ?_
  refine va_get (D := G) (ci := 1) (v := .int (nI (mnp V))) (C := RX1) (T := TM) (N := 18) hx hb hts hfi hown hK hP 0 rfl rfl 1 (by decide) (hts (.fieldLink RX1 58 "PortRulesModel" "parts" "I") (by decide +kernel)) (fun _ h9 => h9) rfl dM_manager_9 ?_
  refine lv_i2l (v := (nI (mnp V)).toInt64) hx hb dM_manager_12 (rfl) ?_
  refine rd_callS (As := [.long (x.toInt64), .long 1, .long ((nI (mnp V)).toInt64)]) (rest := []) ⟨hx, hb, hml, hown, hts⟩ (cm_isIn l x.toInt64 1 ((nI (mnp V)).toInt64)) (va_cwS 3 hts gM_manager_M_isIn rfl rfl rfl (by decide +kernel) ⟨Nat.le_of_ble_eq_true rfl, Nat.le_of_ble_eq_true rfl⟩) rfl hl.1 rfl (Nat.le_of_ble_eq_true rfl) dM_manager_13 ⟨Nat.zero_le _, Nat.zero_le _⟩ ?_
  refine rd_topi (y := z1 (inB x 1 (mnp V))) (z1_ne (isI_b (by decide) (ni_l (show mnp V < 2 ^ 31 by omega)))) ?_
  refine bb_ne (b := (inB x 1 (mnp V))) (tgt := 21) hx hb dM_manager_16 (by decide) (fun c16 => ?_) (fun c16 => ?_)
  · obtain ⟨p0, hp01, hp02, rfl⟩ := inB_nI (by omega) c16
    refine lv_iload_n hx hb dM_manager_21 rfl (lv_at hl 1 rfl) ?_
    refine lv_i2l (v := k0.toInt64) hx hb dM_manager_22 (rfl) ?_
    refine lv_lconst (v := 0) hx hb dM_manager_23 (by decide) ?_
    refine lv_ldc2 (v := 9) hx hb hown (hts (.constantLong RX1 115 9) (by decide +kernel)) dM_manager_24 ?_
    refine rd_callS (As := [.long (k0.toInt64), .long 0, .long 9]) (rest := []) ⟨hx, hb, hml, hown, hts⟩ (cm_isIn l k0.toInt64 0 9) (va_cwS 3 hts gM_manager_M_isIn rfl rfl rfl (by decide +kernel) ⟨Nat.le_of_ble_eq_true rfl, Nat.le_of_ble_eq_true rfl⟩) rfl hl.1 rfl (Nat.le_of_ble_eq_true rfl) dM_manager_27 ⟨Nat.zero_le _, Nat.zero_le _⟩ ?_
    refine rd_topi (y := z1 (inB k0 0 9)) (z1_ne (isI_b (by decide) (by decide))) ?_
    refine bb_ne (b := (inB k0 0 9)) (tgt := 36) hx hb dM_manager_30 (by decide) (fun c30 => ?_) (fun c30 => ?_)
    · obtain ⟨k1, hk1, rfl⟩ := ni_pos (inB_of c30).1
      have hk9 := (inB_of c30).2
      rw [nI_toInt hk1] at hk9
      refine lv_aload_n hx hb dM_manager_36 rfl (lv_at hl 0 rfl) ?_
      refine va_get (D := G) (ci := 1) (v := .ref (a 14)) (C := RX1) (T := TM) (N := 18) hx hb hts hfi hown hK hP 0 rfl rfl 14 (by decide) (hts (.fieldLink RX1 45 "PortRulesModel" "manager" "[I") (by decide +kernel)) (fun _ h9 => h9) rfl dM_manager_37 ?_
      refine lv_iload_n hx hb dM_manager_40 rfl (lv_at hl 1 rfl) ?_
      refine rd_iald hx hb hK hP 12 0 rfl rfl (by omega) (by decide) dM_manager_41 ?_
      refine lv_if_eq (tgt := 57) hx hb dM_manager_42 (by decide) (fun c42 => ?_) (fun c42 => ?_)
      · refine lv_aload_n hx hb dM_manager_57 rfl (lv_at hl 0 rfl) ?_
        refine va_get (D := G) (ci := 1) (v := .ref (a 14)) (C := RX1) (T := TM) (N := 18) hx hb hts hfi hown hK hP 0 rfl rfl 14 (by decide) (hts (.fieldLink RX1 45 "PortRulesModel" "manager" "[I") (by decide +kernel)) (fun _ h9 => h9) rfl dM_manager_58 ?_
        refine lv_iload_n hx hb dM_manager_61 rfl (lv_at hl 1 rfl) ?_
        refine lv_iload_n hx hb dM_manager_62 rfl (lv_at hl 2 rfl) ?_
        refine mu_iast hx hb hK hP hD hS 12 0 rfl rfl (by omega) (by decide) dM_manager_63 (ws1 := mW cA a (mnp V, mnq V, 0, mkn V, va_up (mf V) 14 (upd (mf V 14) k1 (nI p0)), mg V)) rfl (fun H locs hP hD hS => ?_)
        refine lv_iconst (v := 1) hx hb dM_manager_64 (by decide) ?_
        have hE : mMan V (nI k1) (nI p0) = (1, (mnp V, mnq V, 0, mkn V, va_up (mf V) 14 (upd (mf V 14) k1 (nI p0)), mg V)) := by unfold mMan; rw [if_pos c16, if_pos c30, nI_clamp (by omega), if_pos (Or.inl c42)]; try rfl
        exact mu_iret ((mnp V, mnq V, 0, mkn V, va_up (mf V) 14 (upd (mf V 14) k1 (nI p0)), mg V)) hx hb hr hS hP (by rw [hE]) (by rw [hE]) dM_manager_65 hlocks
      · refine lv_aload_n hx hb dM_manager_45 rfl (lv_at hl 0 rfl) ?_
        refine va_get (D := G) (ci := 1) (v := .ref (a 14)) (C := RX1) (T := TM) (N := 18) hx hb hts hfi hown hK hP 0 rfl rfl 14 (by decide) (hts (.fieldLink RX1 45 "PortRulesModel" "manager" "[I") (by decide +kernel)) (fun _ h9 => h9) rfl dM_manager_46 ?_
        refine lv_iload_n hx hb dM_manager_49 rfl (lv_at hl 1 rfl) ?_
        refine rd_iald hx hb hK hP 12 0 rfl rfl (by omega) (by decide) dM_manager_50 ?_
        refine lv_iload_n hx hb dM_manager_51 rfl (lv_at hl 2 rfl) ?_
        refine lv_icmp_eq (tgt := 57) hx hb dM_manager_52 (by decide) (fun c52 => ?_) (fun c52 => ?_)
        · refine lv_aload_n hx hb dM_manager_57 rfl (lv_at hl 0 rfl) ?_
          refine va_get (D := G) (ci := 1) (v := .ref (a 14)) (C := RX1) (T := TM) (N := 18) hx hb hts hfi hown hK hP 0 rfl rfl 14 (by decide) (hts (.fieldLink RX1 45 "PortRulesModel" "manager" "[I") (by decide +kernel)) (fun _ h9 => h9) rfl dM_manager_58 ?_
          refine lv_iload_n hx hb dM_manager_61 rfl (lv_at hl 1 rfl) ?_
          refine lv_iload_n hx hb dM_manager_62 rfl (lv_at hl 2 rfl) ?_
          refine mu_iast hx hb hK hP hD hS 12 0 rfl rfl (by omega) (by decide) dM_manager_63 (ws1 := mW cA a (mnp V, mnq V, 0, mkn V, va_up (mf V) 14 (upd (mf V 14) k1 (nI p0)), mg V)) rfl (fun H locs hP hD hS => ?_)
          refine lv_iconst (v := 1) hx hb dM_manager_64 (by decide) ?_
          have hE : mMan V (nI k1) (nI p0) = (1, (mnp V, mnq V, 0, mkn V, va_up (mf V) 14 (upd (mf V 14) k1 (nI p0)), mg V)) := by unfold mMan; rw [if_pos c16, if_pos c30, nI_clamp (by omega), if_pos (Or.inr c52)]; try rfl
          exact mu_iret ((mnp V, mnq V, 0, mkn V, va_up (mf V) 14 (upd (mf V 14) k1 (nI p0)), mg V)) hx hb hr hS hP (by rw [hE]) (by rw [hE]) dM_manager_65 hlocks
        · refine lv_iconst (v := 0) hx hb dM_manager_55 (by decide) ?_
          have hE : mMan V (nI k1) (nI p0) = (0, (mnp V, mnq V, 0, mkn V, mf V, mg V)) := by unfold mMan; rw [if_pos c16, if_pos c30, nI_clamp (by omega), if_neg (fun h => h.elim c42 c52)]; try rfl
          exact mu_iret ((mnp V, mnq V, 0, mkn V, mf V, mg V)) hx hb hr hS hP (by rw [hE]) (by rw [hE]) dM_manager_56 hlocks
    · refine lv_bipush (v := -2) hx hb dM_manager_33 (by decide) ?_
      have hE : mMan V k0 (nI p0) = (-2, (mnp V, mnq V, 0, mkn V, mf V, mg V)) := by unfold mMan; rw [if_pos c16, if_neg (by rw [c30]; decide)]; try rfl
      exact mu_iret ((mnp V, mnq V, 0, mkn V, mf V, mg V)) hx hb hr hS hP (by rw [hE]) (by rw [hE]) dM_manager_35 hlocks
  · refine lv_iconst (v := -1) hx hb dM_manager_19 (by decide) ?_
    have hE : mMan V k0 x = (-1, (mnp V, mnq V, 0, mkn V, mf V, mg V)) := by unfold mMan; rw [if_neg (by rw [c16]; decide)]; try rfl
    exact mu_iret ((mnp V, mnq V, 0, mkn V, mf V, mg V)) hx hb hr hS hP (by rw [hE]) (by rw [hE]) dM_manager_20 hlocks
set_option maxHeartbeats 4000000 in
set_option maxRecDepth 100000 in
theorem cm_fallback (l : Launch) (G : va_G) (cA : Nat → ClassId) (a : Nat → Nat) (V : MV) (x v0 : Int32) (h60 : mnq V ≤ 60) : Met l yM_fallback wsM_fallback { frames := 2, cells := 0, slots := 0, locals := 46 } (mu_Pc G vwC2 (tT cA) (mW cA a V) [.ref (a 0), .int x, .int v0]) (mu_Q G vwC2 (mW cA a V) (fun _ => some (.int ((mFall V x v0).1))) (fun u9 : MV => u9 = (mFall V x v0).2) (fun u9 => mW cA a u9)) 0 0 (mu_A (mW cA a V)) := by
  refine Met.ofW (cc := cM_fallback) (maxL := 4) (ret := some .int) (by decide) rfl ?_
  intro p e s m args below meth c s₁ B hml hv
  obtain ⟨rfl, hP, hK, hD0⟩ := hv
  have hx := B.exec
  have hb := B.bytes
  have hr := B.returns
  have hts := atoms_spec (ws := wsM_fallback) B.pre
  have hown : s.vm.findClass RX1 = some m.cls := findClass_of_methodNamed B.named
  have hlocks := B.notSynchronized
  have hD := mu_own hD0
  have hS : va_S (mu_A (mW cA a V)) s.heap s.heap [] := va_S.rf
  have hfi : ∀ w ∈ u_ws RX1 TM 18, w ∈ wsM_fallback := fun w h => List.mem_cons_of_mem _ (wMA_f w h)
  have hl := lv_entry ([.ref (a 0), .int x, .int v0]) (n := 4) (Nat.le_of_ble_eq_true rfl)
  rw [lg_entry_eq]
  generalize (lg_sl ([.ref (a 0), .int x, .int v0]) ++ List.replicate (4 - (lg_sl ([.ref (a 0), .int x, .int v0])).length) Slot.unset).toArray = ls at hl ⊢
  have hl : lv_has ls 4 [(0, .ref (a 0)), (1, .int x), (2, .int v0)] := hl
  refine lv_aload_n hx hb dM_fallback_0 rfl (lv_at hl 0 rfl) ?_
  refine lv_iconst (v := 0) hx hb dM_fallback_1 (by decide) ?_
  refine va_put (D := G) (ci := 1) (v := .int 0) (ty := .int) (C := RX1) (T := TM) (N := 18) hx hb hts hfi tyM tyM_ok nmM hown hK hP hD hS 0 rfl rfl 0 (by decide) (hts (.fieldLink RX1 54 "PortRulesModel" "code" "I") (by decide +kernel)) (fun _ h9 => h9) rfl (by decide +kernel) rfl rfl (Nat.le_of_ble_eq_true rfl) dM_fallback_2 (fun H locs hP hD hS => ?_)
  have hP : va_P G vwC2 (mW cA a (mnp V, mnq V, 0, mkn V, mf V, mg V)) H := hP
  have hD : va_D (mu_A (mW cA a V)) (mW cA a (mnp V, mnq V, 0, mkn V, mf V, mg V)) := hD
  refine lv_aload_n hx hb dM_fallback_5 rfl (lv_at hl 0 rfl) ?_
  refine lv_iload_n hx hb dM_fallback_6 rfl (lv_at hl 1 rfl) ?_
  refine rd_callV (As := [.int x]) (rest := []) (b := a 0) (q0 := 0) (ci := 1) ⟨hx, hb, hml, hown, hts⟩ (cm_isPort l G cA a ((mnp V, mnq V, 0, mkn V, mf V, mg V)) x h60) (cwV 1 hts gM_fallback_M_isPort rfl rfl rfl (by decide +kernel) ⟨Nat.le_of_ble_eq_true rfl, Nat.le_of_ble_eq_true rfl⟩) hK hP rfl rfl rfl rfl hl.1 rfl (Nat.le_of_ble_eq_true rfl) dM_fallback_7 ⟨Nat.zero_le _, Nat.zero_le _⟩ ?_
  refine bb_ne (b := (inB x 1 (mnq V))) (tgt := 15) hx hb dM_fallback_10 (by decide) (fun c10 => ?_) (fun c10 => ?_)
  · obtain ⟨p0, hp01, hp02, rfl⟩ := inB_nI (by omega) c10
    refine lv_aload_n hx hb dM_fallback_15 rfl (lv_at hl 0 rfl) ?_
    refine va_get (D := G) (ci := 1) (v := .ref (a 6)) (C := RX1) (T := TM) (N := 18) hx hb hts hfi hown hK hP 0 rfl rfl 6 (by decide) (hts (.fieldLink RX1 19 "PortRulesModel" "provides" "[Z") (by decide +kernel)) (fun _ h9 => h9) rfl dM_fallback_16 ?_
    refine lv_iload_n hx hb dM_fallback_19 rfl (lv_at hl 1 rfl) ?_
    refine rd_zald hx hb hK hP 4 1 rfl rfl (by omega) (by decide) dM_fallback_20 ?_
    refine lv_if_eq (tgt := 27) hx hb dM_fallback_21 (by decide) (fun c21 => ?_) (fun c21 => ?_)
    · refine lv_aload_n hx hb dM_fallback_27 rfl (lv_at hl 0 rfl) ?_
      refine va_get (D := G) (ci := 1) (v := .ref (a 12)) (C := RX1) (T := TM) (N := 18) hx hb hts hfi hown hK hP 0 rfl rfl 12 (by decide) (hts (.fieldLink RX1 39 "PortRulesModel" "fallback" "[I") (by decide +kernel)) (fun _ h9 => h9) rfl dM_fallback_28 ?_
      refine lv_iload_n hx hb dM_fallback_31 rfl (lv_at hl 1 rfl) ?_
      refine rd_iald hx hb hK hP 10 0 rfl rfl (by omega) (by decide) dM_fallback_32 ?_
      refine lv_istore_n (lv' := [(3, .int (mf V 12 p0)), (0, .ref (a 0)), (1, .int (nI p0)), (2, .int v0)]) hx hb dM_fallback_33 rfl hl (by decide) rfl (fun ls hl => ?_)
      refine lv_aload_n hx hb dM_fallback_34 rfl (lv_at hl 1 rfl) ?_
      refine va_get (D := G) (ci := 1) (v := .ref (a 12)) (C := RX1) (T := TM) (N := 18) hx hb hts hfi hown hK hP 0 rfl rfl 12 (by decide) (hts (.fieldLink RX1 39 "PortRulesModel" "fallback" "[I") (by decide +kernel)) (fun _ h9 => h9) rfl dM_fallback_35 ?_
      refine lv_iload_n hx hb dM_fallback_38 rfl (lv_at hl 2 rfl) ?_
      refine lv_iload_n hx hb dM_fallback_39 rfl (lv_at hl 3 rfl) ?_
      refine mu_iast hx hb hK hP hD hS 10 0 rfl rfl (by omega) (by decide) dM_fallback_40 (ws1 := mW cA a (mnp V, mnq V, 0, mkn V, va_up (mf V) 12 (upd (mf V 12) p0 v0), mg V)) rfl (fun H locs hP hD hS => ?_)
      refine lv_aload_n hx hb dM_fallback_41 rfl (lv_at hl 1 rfl) ?_
      refine va_get (D := G) (ci := 1) (v := .ref (a 11)) (C := RX1) (T := TM) (N := 18) hx hb hts hfi hown hK hP 0 rfl rfl 11 (by decide) (hts (.fieldLink RX1 36 "PortRulesModel" "hasFallback" "[Z") (by decide +kernel)) (fun _ h9 => h9) rfl dM_fallback_42 ?_
      refine lv_iload_n hx hb dM_fallback_45 rfl (lv_at hl 2 rfl) ?_
      refine lv_iconst (v := 1) hx hb dM_fallback_46 (by decide) ?_
      refine mu_zast hx hb hK hP hD hS 9 1 rfl rfl (by omega) (by decide) rfl dM_fallback_47 (ws1 := mW cA a (mnp V, mnq V, 0, mkn V, va_up (va_up (mf V) 12 (upd (mf V 12) p0 v0)) 11 (upd (mf V 11) p0 1), mg V)) rfl (fun H locs hP hD hS => ?_)
      refine lv_iload_n hx hb dM_fallback_48 rfl (lv_at hl 0 rfl) ?_
      have hE : mFall V (nI p0) v0 = (mf V 12 p0, (mnp V, mnq V, 0, mkn V, va_up (va_up (mf V) 12 (upd (mf V 12) p0 v0)) 11 (upd (mf V 11) p0 1), mg V)) := by unfold mFall; rw [if_pos c10, nI_clamp (by omega), if_pos c21]; try rfl
      exact mu_iret ((mnp V, mnq V, 0, mkn V, va_up (va_up (mf V) 12 (upd (mf V 12) p0 v0)) 11 (upd (mf V 11) p0 1), mg V)) hx hb hr hS hP (by rw [hE]) (by rw [hE]) dM_fallback_49 hlocks
    · refine lv_bipush (v := -3) hx hb dM_fallback_24 (by decide) ?_
      have hE : mFall V (nI p0) v0 = (-3, (mnp V, mnq V, 0, mkn V, mf V, mg V)) := by unfold mFall; rw [if_pos c10, nI_clamp (by omega), if_neg c21]; try rfl
      exact mu_iret ((mnp V, mnq V, 0, mkn V, mf V, mg V)) hx hb hr hS hP (by rw [hE]) (by rw [hE]) dM_fallback_26 hlocks
  · refine lv_iconst (v := -1) hx hb dM_fallback_13 (by decide) ?_
    have hE : mFall V x v0 = (-1, (mnp V, mnq V, 0, mkn V, mf V, mg V)) := by unfold mFall; rw [if_neg (by rw [c10]; decide)]; try rfl
    exact mu_iret ((mnp V, mnq V, 0, mkn V, mf V, mg V)) hx hb hr hS hP (by rw [hE]) (by rw [hE]) dM_fallback_14 hlocks
set_option maxHeartbeats 4000000 in
set_option maxRecDepth 100000 in
theorem cm_queue (l : Launch) (G : va_G) (cA : Nat → ClassId) (a : Nat → Nat) (V : MV) (x n0 : Int32) (h60 : mnq V ≤ 60) : Met l yM_queue wsM_queue { frames := 2, cells := 0, slots := 0, locals := 46 } (mu_Pc G vwC2 (tT cA) (mW cA a V) [.ref (a 0), .int x, .int n0]) (mu_Q G vwC2 (mW cA a V) (fun _ => some (.int ((mQue V x n0).1))) (fun u9 : MV => u9 = (mQue V x n0).2) (fun u9 => mW cA a u9)) 0 0 (mu_A (mW cA a V)) := by
  refine Met.ofW (cc := cM_queue) (maxL := 3) (ret := some .int) (by decide) rfl ?_
  intro p e s m args below meth c s₁ B hml hv
  obtain ⟨rfl, hP, hK, hD0⟩ := hv
  have hx := B.exec
  have hb := B.bytes
  have hr := B.returns
  have hts := atoms_spec (ws := wsM_queue) B.pre
  have hown : s.vm.findClass RX1 = some m.cls := findClass_of_methodNamed B.named
  have hlocks := B.notSynchronized
  have hD := mu_own hD0
  have hS : va_S (mu_A (mW cA a V)) s.heap s.heap [] := va_S.rf
  have hfi : ∀ w ∈ u_ws RX1 TM 18, w ∈ wsM_queue := fun w h => List.mem_cons_of_mem _ (wMA_f w h)
  have hl := lv_entry ([.ref (a 0), .int x, .int n0]) (n := 3) (Nat.le_of_ble_eq_true rfl)
  rw [lg_entry_eq]
  generalize (lg_sl ([.ref (a 0), .int x, .int n0]) ++ List.replicate (3 - (lg_sl ([.ref (a 0), .int x, .int n0])).length) Slot.unset).toArray = ls at hl ⊢
  have hl : lv_has ls 3 [(0, .ref (a 0)), (1, .int x), (2, .int n0)] := hl
  refine lv_aload_n hx hb dM_queue_0 rfl (lv_at hl 0 rfl) ?_
  refine lv_iconst (v := 0) hx hb dM_queue_1 (by decide) ?_
  refine va_put (D := G) (ci := 1) (v := .int 0) (ty := .int) (C := RX1) (T := TM) (N := 18) hx hb hts hfi tyM tyM_ok nmM hown hK hP hD hS 0 rfl rfl 0 (by decide) (hts (.fieldLink RX1 54 "PortRulesModel" "code" "I") (by decide +kernel)) (fun _ h9 => h9) rfl (by decide +kernel) rfl rfl (Nat.le_of_ble_eq_true rfl) dM_queue_2 (fun H locs hP hD hS => ?_)
  have hP : va_P G vwC2 (mW cA a (mnp V, mnq V, 0, mkn V, mf V, mg V)) H := hP
  have hD : va_D (mu_A (mW cA a V)) (mW cA a (mnp V, mnq V, 0, mkn V, mf V, mg V)) := hD
  refine lv_aload_n hx hb dM_queue_5 rfl (lv_at hl 0 rfl) ?_
  refine lv_iload_n hx hb dM_queue_6 rfl (lv_at hl 1 rfl) ?_
  refine rd_callV (As := [.int x]) (rest := []) (b := a 0) (q0 := 0) (ci := 1) ⟨hx, hb, hml, hown, hts⟩ (cm_isPort l G cA a ((mnp V, mnq V, 0, mkn V, mf V, mg V)) x h60) (cwV 1 hts gM_queue_M_isPort rfl rfl rfl (by decide +kernel) ⟨Nat.le_of_ble_eq_true rfl, Nat.le_of_ble_eq_true rfl⟩) hK hP rfl rfl rfl rfl hl.1 rfl (Nat.le_of_ble_eq_true rfl) dM_queue_7 ⟨Nat.zero_le _, Nat.zero_le _⟩ ?_
  refine bb_ne (b := (inB x 1 (mnq V))) (tgt := 15) hx hb dM_queue_10 (by decide) (fun c10 => ?_) (fun c10 => ?_)
  · obtain ⟨p0, hp01, hp02, rfl⟩ := inB_nI (by omega) c10
    refine lv_iload_n hx hb dM_queue_15 rfl (lv_at hl 2 rfl) ?_
    refine lv_i2l (v := n0.toInt64) hx hb dM_queue_16 (rfl) ?_
    refine lv_lconst (v := 1) hx hb dM_queue_17 (by decide) ?_
    refine lv_ldc2 (v := 100) hx hb hown (hts (.constantLong RX1 117 100) (by decide +kernel)) dM_queue_18 ?_
    refine rd_callS (As := [.long (n0.toInt64), .long 1, .long 100]) (rest := []) ⟨hx, hb, hml, hown, hts⟩ (cm_isIn l n0.toInt64 1 100) (va_cwS 3 hts gM_queue_M_isIn rfl rfl rfl (by decide +kernel) ⟨Nat.le_of_ble_eq_true rfl, Nat.le_of_ble_eq_true rfl⟩) rfl hl.1 rfl (Nat.le_of_ble_eq_true rfl) dM_queue_21 ⟨Nat.zero_le _, Nat.zero_le _⟩ ?_
    refine rd_topi (y := z1 (inB n0 1 100)) (z1_ne (isI_b (by decide) (by decide))) ?_
    refine bb_ne (b := (inB n0 1 100)) (tgt := 30) hx hb dM_queue_24 (by decide) (fun c24 => ?_) (fun c24 => ?_)
    · refine lv_aload_n hx hb dM_queue_30 rfl (lv_at hl 0 rfl) ?_
      refine va_get (D := G) (ci := 1) (v := .ref (a 5)) (C := RX1) (T := TM) (N := 18) hx hb hts hfi hown hK hP 0 rfl rfl 5 (by decide) (hts (.fieldLink RX1 16 "PortRulesModel" "kindOf" "[I") (by decide +kernel)) (fun _ h9 => h9) rfl dM_queue_31 ?_
      refine lv_iload_n hx hb dM_queue_34 rfl (lv_at hl 1 rfl) ?_
      refine rd_iald hx hb hK hP 3 0 rfl rfl (by omega) (by decide) dM_queue_35 ?_
      refine lv_iconst (v := 1) hx hb dM_queue_36 (by decide) ?_
      refine lv_icmp_eq (tgt := 43) hx hb dM_queue_37 (by decide) (fun c37 => ?_) (fun c37 => ?_)
      · refine lv_aload_n hx hb dM_queue_43 rfl (lv_at hl 0 rfl) ?_
        refine va_get (D := G) (ci := 1) (v := .ref (a 13)) (C := RX1) (T := TM) (N := 18) hx hb hts hfi hown hK hP 0 rfl rfl 13 (by decide) (hts (.fieldLink RX1 42 "PortRulesModel" "queue" "[I") (by decide +kernel)) (fun _ h9 => h9) rfl dM_queue_44 ?_
        refine lv_iload_n hx hb dM_queue_47 rfl (lv_at hl 1 rfl) ?_
        refine lv_iload_n hx hb dM_queue_48 rfl (lv_at hl 2 rfl) ?_
        refine mu_iast hx hb hK hP hD hS 11 0 rfl rfl (by omega) (by decide) dM_queue_49 (ws1 := mW cA a (mnp V, mnq V, 0, mkn V, va_up (mf V) 13 (upd (mf V 13) p0 n0), mg V)) rfl (fun H locs hP hD hS => ?_)
        refine lv_iconst (v := 1) hx hb dM_queue_50 (by decide) ?_
        have hE : mQue V (nI p0) n0 = (1, (mnp V, mnq V, 0, mkn V, va_up (mf V) 13 (upd (mf V 13) p0 n0), mg V)) := by unfold mQue; rw [if_pos c10, if_pos c24, nI_clamp (by omega), if_pos c37]; try rfl
        exact mu_iret ((mnp V, mnq V, 0, mkn V, va_up (mf V) 13 (upd (mf V 13) p0 n0), mg V)) hx hb hr hS hP (by rw [hE]) (by rw [hE]) dM_queue_51 hlocks
      · refine lv_bipush (v := -3) hx hb dM_queue_40 (by decide) ?_
        have hE : mQue V (nI p0) n0 = (-3, (mnp V, mnq V, 0, mkn V, mf V, mg V)) := by unfold mQue; rw [if_pos c10, if_pos c24, nI_clamp (by omega), if_neg c37]; try rfl
        exact mu_iret ((mnp V, mnq V, 0, mkn V, mf V, mg V)) hx hb hr hS hP (by rw [hE]) (by rw [hE]) dM_queue_42 hlocks
    · refine lv_bipush (v := -2) hx hb dM_queue_27 (by decide) ?_
      have hE : mQue V (nI p0) n0 = (-2, (mnp V, mnq V, 0, mkn V, mf V, mg V)) := by unfold mQue; rw [if_pos c10, if_neg (by rw [c24]; decide)]; try rfl
      exact mu_iret ((mnp V, mnq V, 0, mkn V, mf V, mg V)) hx hb hr hS hP (by rw [hE]) (by rw [hE]) dM_queue_29 hlocks
  · refine lv_iconst (v := -1) hx hb dM_queue_13 (by decide) ?_
    have hE : mQue V x n0 = (-1, (mnp V, mnq V, 0, mkn V, mf V, mg V)) := by unfold mQue; rw [if_neg (by rw [c10]; decide)]; try rfl
    exact mu_iret ((mnp V, mnq V, 0, mkn V, mf V, mg V)) hx hb hr hS hP (by rw [hE]) (by rw [hE]) dM_queue_14 hlocks
set_option maxHeartbeats 4000000 in
set_option maxRecDepth 100000 in
theorem cm_version (l : Launch) (G : va_G) (cA : Nat → ClassId) (a : Nat → Nat) (V : MV) (x v0 : Int32) (h60 : mnq V ≤ 60) : Met l yM_version wsM_version { frames := 2, cells := 0, slots := 0, locals := 46 } (mu_Pc G vwC2 (tT cA) (mW cA a V) [.ref (a 0), .int x, .int v0]) (mu_Q G vwC2 (mW cA a V) (fun _ => some (.int ((mVer V x v0).1))) (fun u9 : MV => u9 = (mVer V x v0).2) (fun u9 => mW cA a u9)) 0 0 (mu_A (mW cA a V)) := by
  refine Met.ofW (cc := cM_version) (maxL := 3) (ret := some .int) (by decide) rfl ?_
  intro p e s m args below meth c s₁ B hml hv
  obtain ⟨rfl, hP, hK, hD0⟩ := hv
  have hx := B.exec
  have hb := B.bytes
  have hr := B.returns
  have hts := atoms_spec (ws := wsM_version) B.pre
  have hown : s.vm.findClass RX1 = some m.cls := findClass_of_methodNamed B.named
  have hlocks := B.notSynchronized
  have hD := mu_own hD0
  have hS : va_S (mu_A (mW cA a V)) s.heap s.heap [] := va_S.rf
  have hfi : ∀ w ∈ u_ws RX1 TM 18, w ∈ wsM_version := fun w h => List.mem_cons_of_mem _ (wMA_f w h)
  have hl := lv_entry ([.ref (a 0), .int x, .int v0]) (n := 3) (Nat.le_of_ble_eq_true rfl)
  rw [lg_entry_eq]
  generalize (lg_sl ([.ref (a 0), .int x, .int v0]) ++ List.replicate (3 - (lg_sl ([.ref (a 0), .int x, .int v0])).length) Slot.unset).toArray = ls at hl ⊢
  have hl : lv_has ls 3 [(0, .ref (a 0)), (1, .int x), (2, .int v0)] := hl
  refine lv_aload_n hx hb dM_version_0 rfl (lv_at hl 0 rfl) ?_
  refine lv_iconst (v := 0) hx hb dM_version_1 (by decide) ?_
  refine va_put (D := G) (ci := 1) (v := .int 0) (ty := .int) (C := RX1) (T := TM) (N := 18) hx hb hts hfi tyM tyM_ok nmM hown hK hP hD hS 0 rfl rfl 0 (by decide) (hts (.fieldLink RX1 54 "PortRulesModel" "code" "I") (by decide +kernel)) (fun _ h9 => h9) rfl (by decide +kernel) rfl rfl (Nat.le_of_ble_eq_true rfl) dM_version_2 (fun H locs hP hD hS => ?_)
  have hP : va_P G vwC2 (mW cA a (mnp V, mnq V, 0, mkn V, mf V, mg V)) H := hP
  have hD : va_D (mu_A (mW cA a V)) (mW cA a (mnp V, mnq V, 0, mkn V, mf V, mg V)) := hD
  refine lv_aload_n hx hb dM_version_5 rfl (lv_at hl 0 rfl) ?_
  refine lv_iload_n hx hb dM_version_6 rfl (lv_at hl 1 rfl) ?_
  refine rd_callV (As := [.int x]) (rest := []) (b := a 0) (q0 := 0) (ci := 1) ⟨hx, hb, hml, hown, hts⟩ (cm_isPort l G cA a ((mnp V, mnq V, 0, mkn V, mf V, mg V)) x h60) (cwV 1 hts gM_version_M_isPort rfl rfl rfl (by decide +kernel) ⟨Nat.le_of_ble_eq_true rfl, Nat.le_of_ble_eq_true rfl⟩) hK hP rfl rfl rfl rfl hl.1 rfl (Nat.le_of_ble_eq_true rfl) dM_version_7 ⟨Nat.zero_le _, Nat.zero_le _⟩ ?_
  refine bb_ne (b := (inB x 1 (mnq V))) (tgt := 15) hx hb dM_version_10 (by decide) (fun c10 => ?_) (fun c10 => ?_)
  · obtain ⟨p0, hp01, hp02, rfl⟩ := inB_nI (by omega) c10
    refine lv_iload_n hx hb dM_version_15 rfl (lv_at hl 2 rfl) ?_
    refine lv_i2l (v := v0.toInt64) hx hb dM_version_16 (rfl) ?_
    refine lv_lconst (v := 0) hx hb dM_version_17 (by decide) ?_
    refine lv_ldc2 (v := 9999) hx hb hown (hts (.constantLong RX1 119 9999) (by decide +kernel)) dM_version_18 ?_
    refine rd_callS (As := [.long (v0.toInt64), .long 0, .long 9999]) (rest := []) ⟨hx, hb, hml, hown, hts⟩ (cm_isIn l v0.toInt64 0 9999) (va_cwS 3 hts gM_version_M_isIn rfl rfl rfl (by decide +kernel) ⟨Nat.le_of_ble_eq_true rfl, Nat.le_of_ble_eq_true rfl⟩) rfl hl.1 rfl (Nat.le_of_ble_eq_true rfl) dM_version_21 ⟨Nat.zero_le _, Nat.zero_le _⟩ ?_
    refine rd_topi (y := z1 (inB v0 0 9999)) (z1_ne (isI_b (by decide) (by decide))) ?_
    refine bb_ne (b := (inB v0 0 9999)) (tgt := 30) hx hb dM_version_24 (by decide) (fun c24 => ?_) (fun c24 => ?_)
    · refine lv_aload_n hx hb dM_version_30 rfl (lv_at hl 0 rfl) ?_
      refine va_get (D := G) (ci := 1) (v := .ref (a 10)) (C := RX1) (T := TM) (N := 18) hx hb hts hfi hown hK hP 0 rfl rfl 10 (by decide) (hts (.fieldLink RX1 33 "PortRulesModel" "version" "[I") (by decide +kernel)) (fun _ h9 => h9) rfl dM_version_31 ?_
      refine lv_iload_n hx hb dM_version_34 rfl (lv_at hl 1 rfl) ?_
      refine lv_iload_n hx hb dM_version_35 rfl (lv_at hl 2 rfl) ?_
      refine mu_iast hx hb hK hP hD hS 8 0 rfl rfl (by omega) (by decide) dM_version_36 (ws1 := mW cA a (mnp V, mnq V, 0, mkn V, va_up (mf V) 10 (upd (mf V 10) p0 v0), mg V)) rfl (fun H locs hP hD hS => ?_)
      refine lv_iconst (v := 1) hx hb dM_version_37 (by decide) ?_
      have hE : mVer V (nI p0) v0 = (1, (mnp V, mnq V, 0, mkn V, va_up (mf V) 10 (upd (mf V 10) p0 v0), mg V)) := by unfold mVer; rw [if_pos c10, if_pos c24, nI_clamp (by omega)]; try rfl
      exact mu_iret ((mnp V, mnq V, 0, mkn V, va_up (mf V) 10 (upd (mf V 10) p0 v0), mg V)) hx hb hr hS hP (by rw [hE]) (by rw [hE]) dM_version_38 hlocks
    · refine lv_bipush (v := -2) hx hb dM_version_27 (by decide) ?_
      have hE : mVer V (nI p0) v0 = (-2, (mnp V, mnq V, 0, mkn V, mf V, mg V)) := by unfold mVer; rw [if_pos c10, if_neg (by rw [c24]; decide)]; try rfl
      exact mu_iret ((mnp V, mnq V, 0, mkn V, mf V, mg V)) hx hb hr hS hP (by rw [hE]) (by rw [hE]) dM_version_29 hlocks
  · refine lv_iconst (v := -1) hx hb dM_version_13 (by decide) ?_
    have hE : mVer V x v0 = (-1, (mnp V, mnq V, 0, mkn V, mf V, mg V)) := by unfold mVer; rw [if_neg (by rw [c10]; decide)]; try rfl
    exact mu_iret ((mnp V, mnq V, 0, mkn V, mf V, mg V)) hx hb hr hS hP (by rw [hE]) (by rw [hE]) dM_version_14 hlocks
