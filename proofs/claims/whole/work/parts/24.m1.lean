/-! M: the methods that change nothing (know, leadTo, isBrokenAt where it is known) -/
set_option maxHeartbeats 4000000 in
set_option maxRecDepth 100000 in
theorem cm_isIn (l : Launch) (x lo hi : Int64)  : Met l yM_isIn wsM_isIn { frames := 0, cells := 0, slots := 0, locals := 0 } (fun v _ => v = ([.long x, .long lo, .long hi] : List Value).toArray) (k2_QcV (.int (z1 (isI x lo hi)))) 0 0 (fun _ => False) := by
  refine Met.ofW (cc := cM_isIn) (maxL := 6) (ret := some .boolean) (by decide) rfl ?_
  intro p e s m args below meth c s₁ B hml hv
  obtain rfl := hv
  have hx := B.exec
  have hb := B.bytes
  have hr := B.returns
  have hts := atoms_spec (ws := wsM_isIn) B.pre
  have hown : s.vm.findClass RX1 = some m.cls := findClass_of_methodNamed B.named
  have hlocks := B.notSynchronized
  have hl := lv_entry ([.long x, .long lo, .long hi]) (n := 6) (Nat.le_of_ble_eq_true rfl)
  rw [lg_entry_eq]
  generalize (lg_sl ([.long x, .long lo, .long hi]) ++ List.replicate (6 - (lg_sl ([.long x, .long lo, .long hi])).length) Slot.unset).toArray = ls at hl ⊢
  have hl : lv_has ls 6 [(0, .long x), (2, .long lo), (4, .long hi)] := hl
  refine lv_lload_n hx hb dM_isIn_0 rfl (lv_at hl 0 rfl) ?_
  refine lv_lload_n hx hb dM_isIn_1 rfl (lv_at hl 1 rfl) ?_
  refine bl_lt (tgt := 17) (a := x.toInt) (b := lo.toInt) hx hb dM_isIn_2 dM_isIn_3 (by decide) rfl rfl (fun c3 => ?_) (fun c3 => ?_)
  · refine lv_iconst (v := 0) hx hb dM_isIn_17 (by decide) ?_
    exact rd_zret hx hb hr rfl (z1_f (isI_lo c3)) dM_isIn_18 hlocks
  · refine lv_lload_n hx hb dM_isIn_6 rfl (lv_at hl 0 rfl) ?_
    refine lv_lload hx hb dM_isIn_7 (lv_at hl 2 rfl) ?_
    refine bl_gt (tgt := 17) (a := x.toInt) (b := hi.toInt) hx hb dM_isIn_9 dM_isIn_10 (by decide) rfl rfl (fun c10 => ?_) (fun c10 => ?_)
    · refine lv_iconst (v := 0) hx hb dM_isIn_17 (by decide) ?_
      exact rd_zret hx hb hr rfl (z1_f (isI_hi c10)) dM_isIn_18 hlocks
    · refine lv_iconst (v := 1) hx hb dM_isIn_13 (by decide) ?_
      refine lv_goto (tgt := 18) hx hb dM_isIn_14 (by decide) ?_
      exact rd_zret hx hb hr rfl (z1_t (isI_t c3 c10)) dM_isIn_18 hlocks
set_option maxHeartbeats 4000000 in
set_option maxRecDepth 100000 in
theorem cm_isPort (l : Launch) (G : va_G) (cA : Nat → ClassId) (a : Nat → Nat) (V : MV) (x : Int32) (h60 : mnq V ≤ 60) : Met l yM_isPort wsM_isPort { frames := 1, cells := 0, slots := 0, locals := 25 } (rd_Pc G vwC2 (tT cA) (mW cA a V) [.ref (a 0), .int x]) (k2_QcV (.int (z1 (inB x 1 (mnq V))))) 0 0 (fun _ => False) := by
  refine Met.ofW (cc := cM_isPort) (maxL := 2) (ret := some .boolean) (by decide) rfl ?_
  intro p e s m args below meth c s₁ B hml hv
  obtain ⟨rfl, hP, hK⟩ := hv
  have hx := B.exec
  have hb := B.bytes
  have hr := B.returns
  have hts := atoms_spec (ws := wsM_isPort) B.pre
  have hown : s.vm.findClass RX1 = some m.cls := findClass_of_methodNamed B.named
  have hlocks := B.notSynchronized
  have hfi : ∀ w ∈ u_ws RX1 TM 18, w ∈ wsM_isPort := fun w h => List.mem_cons_of_mem _ (wMA_f w h)
  have hl := lv_entry ([.ref (a 0), .int x]) (n := 2) (Nat.le_of_ble_eq_true rfl)
  rw [lg_entry_eq]
  generalize (lg_sl ([.ref (a 0), .int x]) ++ List.replicate (2 - (lg_sl ([.ref (a 0), .int x])).length) Slot.unset).toArray = ls at hl ⊢
  have hl : lv_has ls 2 [(0, .ref (a 0)), (1, .int x)] := hl
  refine lv_iload_n hx hb dM_isPort_0 rfl (lv_at hl 1 rfl) ?_
  refine lv_i2l (v := x.toInt64) hx hb dM_isPort_1 (rfl) ?_
  refine lv_lconst (v := 1) hx hb dM_isPort_2 (by decide) ?_
  refine lv_aload_n hx hb dM_isPort_3 rfl (lv_at hl 0 rfl) ?_
  refine va_get (D := G) (ci := 1) (v := .int (nI (mnq V))) (C := RX1) (T := TM) (N := 18) hx hb hts hfi hown hK hP 0 rfl rfl 3 (by decide) (hts (.fieldLink RX1 71 "PortRulesModel" "ports" "I") (by decide +kernel)) (fun _ h9 => h9) rfl dM_isPort_4 ?_
  refine lv_i2l (v := (nI (mnq V)).toInt64) hx hb dM_isPort_7 (rfl) ?_
  refine rd_callS (As := [.long (x.toInt64), .long 1, .long ((nI (mnq V)).toInt64)]) (rest := []) ⟨hx, hb, hml, hown, hts⟩ (cm_isIn l x.toInt64 1 ((nI (mnq V)).toInt64)) (va_cwS 3 hts gM_isPort_M_isIn rfl rfl rfl (by decide +kernel) ⟨Nat.le_of_ble_eq_true rfl, Nat.le_of_ble_eq_true rfl⟩) rfl hl.1 rfl (Nat.le_of_ble_eq_true rfl) dM_isPort_8 ⟨Nat.zero_le _, Nat.zero_le _⟩ ?_
  exact rd_zret hx hb hr (z1_nar _) (z1_ne (isI_b (by decide) (ni_l (by omega)))) dM_isPort_11 hlocks
set_option maxHeartbeats 4000000 in
set_option maxRecDepth 100000 in
theorem cm_isWay (l : Launch) (G : va_G) (cA : Nat → ClassId) (a : Nat → Nat) (V : MV) (p0 q0 u v : Nat) (hp : p0 ≤ 60) (hq : q0 ≤ 60) (hu : u ≤ 30) (hv : v ≤ 30) (eu : mf V 4 p0 = nI u) (ev : mf V 4 q0 = nI v) : Met l yM_isWay wsM_isWay { frames := 0, cells := 0, slots := 0, locals := 0 } (rd_Pc G vwC2 (tT cA) (mW cA a V) [.ref (a 0), .int (nI p0), .int (nI q0)]) (k2_QcV (.int (z1 (mWay V p0 q0 u v)))) 0 0 (fun _ => False) := by
  refine Met.ofW (cc := cM_isWay) (maxL := 5) (ret := some .boolean) (by decide) rfl ?_
  intro p e s m args below meth c s₁ B hml hv
  obtain ⟨rfl, hP, hK⟩ := hv
  have hx := B.exec
  have hb := B.bytes
  have hr := B.returns
  have hts := atoms_spec (ws := wsM_isWay) B.pre
  have hown : s.vm.findClass RX1 = some m.cls := findClass_of_methodNamed B.named
  have hlocks := B.notSynchronized
  have hfi : ∀ w ∈ u_ws RX1 TM 18, w ∈ wsM_isWay := fun w h => List.mem_cons_of_mem _ (wMA_f w h)
  have hl := lv_entry ([.ref (a 0), .int (nI p0), .int (nI q0)]) (n := 5) (Nat.le_of_ble_eq_true rfl)
  rw [lg_entry_eq]
  generalize (lg_sl ([.ref (a 0), .int (nI p0), .int (nI q0)]) ++ List.replicate (5 - (lg_sl ([.ref (a 0), .int (nI p0), .int (nI q0)])).length) Slot.unset).toArray = ls at hl ⊢
  have hl : lv_has ls 5 [(0, .ref (a 0)), (1, .int (nI p0)), (2, .int (nI q0))] := hl
  refine lv_aload_n hx hb dM_isWay_0 rfl (lv_at hl 0 rfl) ?_
  refine va_get (D := G) (ci := 1) (v := .ref (a 4)) (C := RX1) (T := TM) (N := 18) hx hb hts hfi hown hK hP 0 rfl rfl 4 (by decide) (hts (.fieldLink RX1 13 "PortRulesModel" "partOf" "[I") (by decide +kernel)) (fun _ h9 => h9) rfl dM_isWay_1 ?_
  refine lv_iload_n hx hb dM_isWay_4 rfl (lv_at hl 1 rfl) ?_
  refine rd_iald hx hb hK hP 2 0 rfl rfl (by omega) (by decide) dM_isWay_5 ?_
  refine rd_topi (y := nI u) (eu) ?_
  refine lv_istore_n (lv' := [(3, .int (nI u)), (0, .ref (a 0)), (1, .int (nI p0)), (2, .int (nI q0))]) hx hb dM_isWay_6 rfl hl (by decide) rfl (fun ls hl => ?_)
  refine lv_aload_n hx hb dM_isWay_7 rfl (lv_at hl 1 rfl) ?_
  refine va_get (D := G) (ci := 1) (v := .ref (a 4)) (C := RX1) (T := TM) (N := 18) hx hb hts hfi hown hK hP 0 rfl rfl 4 (by decide) (hts (.fieldLink RX1 13 "PortRulesModel" "partOf" "[I") (by decide +kernel)) (fun _ h9 => h9) rfl dM_isWay_8 ?_
  refine lv_iload_n hx hb dM_isWay_11 rfl (lv_at hl 3 rfl) ?_
  refine rd_iald hx hb hK hP 2 0 rfl rfl (by omega) (by decide) dM_isWay_12 ?_
  refine rd_topi (y := nI v) (ev) ?_
  refine lv_istore (lv' := [(4, .int (nI v)), (3, .int (nI u)), (0, .ref (a 0)), (1, .int (nI p0)), (2, .int (nI q0))]) hx hb dM_isWay_13 hl (by decide) rfl (fun ls hl => ?_)
  refine lv_aload_n hx hb dM_isWay_15 rfl (lv_at hl 2 rfl) ?_
  refine va_get (D := G) (ci := 1) (v := .ref (a 6)) (C := RX1) (T := TM) (N := 18) hx hb hts hfi hown hK hP 0 rfl rfl 6 (by decide) (hts (.fieldLink RX1 19 "PortRulesModel" "provides" "[Z") (by decide +kernel)) (fun _ h9 => h9) rfl dM_isWay_16 ?_
  refine lv_iload_n hx hb dM_isWay_19 rfl (lv_at hl 3 rfl) ?_
  refine rd_zald hx hb hK hP 4 1 rfl rfl (by omega) (by decide) dM_isWay_20 ?_
  refine lv_if_eq (tgt := 61) hx hb dM_isWay_21 (by decide) (fun c21 => ?_) (fun c21 => ?_)
  · refine lv_aload_n hx hb dM_isWay_61 rfl (lv_at hl 2 rfl) ?_
    refine va_get (D := G) (ci := 1) (v := .ref (a 6)) (C := RX1) (T := TM) (N := 18) hx hb hts hfi hown hK hP 0 rfl rfl 6 (by decide) (hts (.fieldLink RX1 19 "PortRulesModel" "provides" "[Z") (by decide +kernel)) (fun _ h9 => h9) rfl dM_isWay_62 ?_
    refine lv_iload_n hx hb dM_isWay_65 rfl (lv_at hl 3 rfl) ?_
    refine rd_zald hx hb hK hP 4 1 rfl rfl (by omega) (by decide) dM_isWay_66 ?_
    refine lv_if_eq (tgt := 87) hx hb dM_isWay_67 (by decide) (fun c67 => ?_) (fun c67 => ?_)
    · refine lv_aload_n hx hb dM_isWay_87 rfl (lv_at hl 2 rfl) ?_
      refine va_get (D := G) (ci := 1) (v := .ref (a 6)) (C := RX1) (T := TM) (N := 18) hx hb hts hfi hown hK hP 0 rfl rfl 6 (by decide) (hts (.fieldLink RX1 19 "PortRulesModel" "provides" "[Z") (by decide +kernel)) (fun _ h9 => h9) rfl dM_isWay_88 ?_
      refine lv_iload_n hx hb dM_isWay_91 rfl (lv_at hl 4 rfl) ?_
      refine rd_zald hx hb hK hP 4 1 rfl rfl (by omega) (by decide) dM_isWay_92 ?_
      refine lv_if_ne (tgt := 111) hx hb dM_isWay_93 (by decide) (fun c93 => ?_) (fun c93 => ?_)
      · refine lv_iconst (v := 0) hx hb dM_isWay_111 (by decide) ?_
        exact rd_zret hx hb hr rfl (z1_f (by first | exact absurd c21 c67 | exact absurd c67 c21 | (unfold mWay; simp [c21, c67, c93]))) dM_isWay_112 hlocks
      · refine lv_aload_n hx hb dM_isWay_96 rfl (lv_at hl 2 rfl) ?_
        refine va_get (D := G) (ci := 1) (v := .ref (a 2)) (C := RX1) (T := TM) (N := 18) hx hb hts hfi hown hK hP 0 rfl rfl 2 (by decide) (hts (.fieldLink RX1 7 "PortRulesModel" "in" "[I") (by decide +kernel)) (fun _ h9 => h9) rfl dM_isWay_97 ?_
        refine lv_iload hx hb dM_isWay_100 (lv_at hl 0 rfl) ?_
        refine rd_iald hx hb hK hP 1 0 rfl rfl (by omega) (by decide) dM_isWay_102 ?_
        refine lv_iload_n hx hb dM_isWay_103 rfl (lv_at hl 1 rfl) ?_
        refine lv_icmp_ne (tgt := 111) hx hb dM_isWay_104 (by decide) (fun c104 => ?_) (fun c104 => ?_)
        · refine lv_iconst (v := 0) hx hb dM_isWay_111 (by decide) ?_
          exact rd_zret hx hb hr rfl (z1_f (by first | exact absurd c21 c67 | exact absurd c67 c21 | (unfold mWay; simp [c104, c21, c67, c93]))) dM_isWay_112 hlocks
        · refine lv_iconst (v := 1) hx hb dM_isWay_107 (by decide) ?_
          refine lv_goto (tgt := 112) hx hb dM_isWay_108 (by decide) ?_
          exact rd_zret hx hb hr rfl (z1_t (by first | exact absurd c21 c67 | exact absurd c67 c21 | (unfold mWay; simp [c104, c21, c67, c93]))) dM_isWay_112 hlocks
    · refine lv_aload_n hx hb dM_isWay_70 rfl (lv_at hl 2 rfl) ?_
      refine va_get (D := G) (ci := 1) (v := .ref (a 2)) (C := RX1) (T := TM) (N := 18) hx hb hts hfi hown hK hP 0 rfl rfl 2 (by decide) (hts (.fieldLink RX1 7 "PortRulesModel" "in" "[I") (by decide +kernel)) (fun _ h9 => h9) rfl dM_isWay_71 ?_
      refine lv_iload_n hx hb dM_isWay_74 rfl (lv_at hl 1 rfl) ?_
      refine rd_iald hx hb hK hP 1 0 rfl rfl (by omega) (by decide) dM_isWay_75 ?_
      refine lv_iload hx hb dM_isWay_76 (lv_at hl 0 rfl) ?_
      refine lv_icmp_ne (tgt := 85) hx hb dM_isWay_78 (by decide) (fun c78 => ?_) (fun c78 => ?_)
      · refine lv_iconst (v := 0) hx hb dM_isWay_85 (by decide) ?_
        exact rd_zret hx hb hr rfl (z1_f (by first | exact absurd c21 c67 | exact absurd c67 c21 | (unfold mWay; simp [c21, c67, c78]))) dM_isWay_86 hlocks
      · refine lv_iconst (v := 1) hx hb dM_isWay_81 (by decide) ?_
        refine lv_goto (tgt := 86) hx hb dM_isWay_82 (by decide) ?_
        exact rd_zret hx hb hr rfl (z1_t (by first | exact absurd c21 c67 | exact absurd c67 c21 | (unfold mWay; simp [c21, c67, c78]))) dM_isWay_86 hlocks
  · refine lv_aload_n hx hb dM_isWay_24 rfl (lv_at hl 2 rfl) ?_
    refine va_get (D := G) (ci := 1) (v := .ref (a 6)) (C := RX1) (T := TM) (N := 18) hx hb hts hfi hown hK hP 0 rfl rfl 6 (by decide) (hts (.fieldLink RX1 19 "PortRulesModel" "provides" "[Z") (by decide +kernel)) (fun _ h9 => h9) rfl dM_isWay_25 ?_
    refine lv_iload_n hx hb dM_isWay_28 rfl (lv_at hl 4 rfl) ?_
    refine rd_zald hx hb hK hP 4 1 rfl rfl (by omega) (by decide) dM_isWay_29 ?_
    refine lv_if_ne (tgt := 61) hx hb dM_isWay_30 (by decide) (fun c30 => ?_) (fun c30 => ?_)
    · refine lv_aload_n hx hb dM_isWay_61 rfl (lv_at hl 2 rfl) ?_
      refine va_get (D := G) (ci := 1) (v := .ref (a 6)) (C := RX1) (T := TM) (N := 18) hx hb hts hfi hown hK hP 0 rfl rfl 6 (by decide) (hts (.fieldLink RX1 19 "PortRulesModel" "provides" "[Z") (by decide +kernel)) (fun _ h9 => h9) rfl dM_isWay_62 ?_
      refine lv_iload_n hx hb dM_isWay_65 rfl (lv_at hl 3 rfl) ?_
      refine rd_zald hx hb hK hP 4 1 rfl rfl (by omega) (by decide) dM_isWay_66 ?_
      refine lv_if_eq (tgt := 87) hx hb dM_isWay_67 (by decide) (fun c67 => ?_) (fun c67 => ?_)
      · refine lv_aload_n hx hb dM_isWay_87 rfl (lv_at hl 2 rfl) ?_
        refine va_get (D := G) (ci := 1) (v := .ref (a 6)) (C := RX1) (T := TM) (N := 18) hx hb hts hfi hown hK hP 0 rfl rfl 6 (by decide) (hts (.fieldLink RX1 19 "PortRulesModel" "provides" "[Z") (by decide +kernel)) (fun _ h9 => h9) rfl dM_isWay_88 ?_
        refine lv_iload_n hx hb dM_isWay_91 rfl (lv_at hl 4 rfl) ?_
        refine rd_zald hx hb hK hP 4 1 rfl rfl (by omega) (by decide) dM_isWay_92 ?_
        refine lv_if_ne (tgt := 111) hx hb dM_isWay_93 (by decide) (fun c93 => ?_) (fun c93 => ?_)
        · refine lv_iconst (v := 0) hx hb dM_isWay_111 (by decide) ?_
          exact rd_zret hx hb hr rfl (z1_f (by first | exact absurd c21 c67 | exact absurd c67 c21 | exact absurd c30 c93 | exact absurd c93 c30 | (unfold mWay; simp [c21, c30, c67, c93]))) dM_isWay_112 hlocks
        · refine lv_aload_n hx hb dM_isWay_96 rfl (lv_at hl 2 rfl) ?_
          refine va_get (D := G) (ci := 1) (v := .ref (a 2)) (C := RX1) (T := TM) (N := 18) hx hb hts hfi hown hK hP 0 rfl rfl 2 (by decide) (hts (.fieldLink RX1 7 "PortRulesModel" "in" "[I") (by decide +kernel)) (fun _ h9 => h9) rfl dM_isWay_97 ?_
          refine lv_iload hx hb dM_isWay_100 (lv_at hl 0 rfl) ?_
          refine rd_iald hx hb hK hP 1 0 rfl rfl (by omega) (by decide) dM_isWay_102 ?_
          refine lv_iload_n hx hb dM_isWay_103 rfl (lv_at hl 1 rfl) ?_
          refine lv_icmp_ne (tgt := 111) hx hb dM_isWay_104 (by decide) (fun c104 => ?_) (fun c104 => ?_)
          · refine lv_iconst (v := 0) hx hb dM_isWay_111 (by decide) ?_
            exact rd_zret hx hb hr rfl (z1_f (by first | exact absurd c21 c67 | exact absurd c67 c21 | exact absurd c30 c93 | exact absurd c93 c30 | (unfold mWay; simp [c104, c21, c30, c67, c93]))) dM_isWay_112 hlocks
          · refine lv_iconst (v := 1) hx hb dM_isWay_107 (by decide) ?_
            refine lv_goto (tgt := 112) hx hb dM_isWay_108 (by decide) ?_
            exact rd_zret hx hb hr rfl (z1_t (by first | exact absurd c21 c67 | exact absurd c67 c21 | exact absurd c30 c93 | exact absurd c93 c30 | (unfold mWay; simp [c104, c21, c30, c67, c93]))) dM_isWay_112 hlocks
      · refine lv_aload_n hx hb dM_isWay_70 rfl (lv_at hl 2 rfl) ?_
        refine va_get (D := G) (ci := 1) (v := .ref (a 2)) (C := RX1) (T := TM) (N := 18) hx hb hts hfi hown hK hP 0 rfl rfl 2 (by decide) (hts (.fieldLink RX1 7 "PortRulesModel" "in" "[I") (by decide +kernel)) (fun _ h9 => h9) rfl dM_isWay_71 ?_
        refine lv_iload_n hx hb dM_isWay_74 rfl (lv_at hl 1 rfl) ?_
        refine rd_iald hx hb hK hP 1 0 rfl rfl (by omega) (by decide) dM_isWay_75 ?_
        refine lv_iload hx hb dM_isWay_76 (lv_at hl 0 rfl) ?_
        refine lv_icmp_ne (tgt := 85) hx hb dM_isWay_78 (by decide) (fun c78 => ?_) (fun c78 => ?_)
        · refine lv_iconst (v := 0) hx hb dM_isWay_85 (by decide) ?_
          exact rd_zret hx hb hr rfl (z1_f (by first | exact absurd c21 c67 | exact absurd c67 c21 | (unfold mWay; simp [c21, c30, c67, c78]))) dM_isWay_86 hlocks
        · refine lv_iconst (v := 1) hx hb dM_isWay_81 (by decide) ?_
          refine lv_goto (tgt := 86) hx hb dM_isWay_82 (by decide) ?_
          exact rd_zret hx hb hr rfl (z1_t (by first | exact absurd c21 c67 | exact absurd c67 c21 | (unfold mWay; simp [c21, c30, c67, c78]))) dM_isWay_86 hlocks
    · refine lv_iload_n hx hb dM_isWay_33 rfl (lv_at hl 1 rfl) ?_
      refine lv_iload hx hb dM_isWay_34 (lv_at hl 0 rfl) ?_
      refine lv_icmp_eq (tgt := 59) hx hb dM_isWay_36 (by decide) (fun c36 => ?_) (fun c36 => ?_)
      · refine lv_iconst (v := 0) hx hb dM_isWay_59 (by decide) ?_
        exact rd_zret hx hb hr rfl (z1_f (by first | (unfold mWay; simp [c21, c30, c36]))) dM_isWay_60 hlocks
      · refine lv_aload_n hx hb dM_isWay_39 rfl (lv_at hl 2 rfl) ?_
        refine va_get (D := G) (ci := 1) (v := .ref (a 2)) (C := RX1) (T := TM) (N := 18) hx hb hts hfi hown hK hP 0 rfl rfl 2 (by decide) (hts (.fieldLink RX1 7 "PortRulesModel" "in" "[I") (by decide +kernel)) (fun _ h9 => h9) rfl dM_isWay_40 ?_
        refine lv_iload_n hx hb dM_isWay_43 rfl (lv_at hl 1 rfl) ?_
        refine rd_iald hx hb hK hP 1 0 rfl rfl (by omega) (by decide) dM_isWay_44 ?_
        refine lv_aload_n hx hb dM_isWay_45 rfl (lv_at hl 2 rfl) ?_
        refine va_get (D := G) (ci := 1) (v := .ref (a 2)) (C := RX1) (T := TM) (N := 18) hx hb hts hfi hown hK hP 0 rfl rfl 2 (by decide) (hts (.fieldLink RX1 7 "PortRulesModel" "in" "[I") (by decide +kernel)) (fun _ h9 => h9) rfl dM_isWay_46 ?_
        refine lv_iload hx hb dM_isWay_49 (lv_at hl 0 rfl) ?_
        refine rd_iald hx hb hK hP 1 0 rfl rfl (by omega) (by decide) dM_isWay_51 ?_
        refine lv_icmp_ne (tgt := 59) hx hb dM_isWay_52 (by decide) (fun c52 => ?_) (fun c52 => ?_)
        · refine lv_iconst (v := 0) hx hb dM_isWay_59 (by decide) ?_
          exact rd_zret hx hb hr rfl (z1_f (by first | (unfold mWay; simp [c21, c30, c36, c52]))) dM_isWay_60 hlocks
        · refine lv_iconst (v := 1) hx hb dM_isWay_55 (by decide) ?_
          refine lv_goto (tgt := 60) hx hb dM_isWay_56 (by decide) ?_
          exact rd_zret hx hb hr rfl (z1_t (by first | (unfold mWay; simp [c21, c30, c36, c52]))) dM_isWay_60 hlocks
set_option maxHeartbeats 4000000 in
set_option maxRecDepth 100000 in
theorem cm_isAtomic (l : Launch) (G : va_G) (cA : Nat → ClassId) (a : Nat → Nat) (V : MV) (x : Int32) (h30 : mnp V ≤ 30) : Met l yM_isAtomic wsM_isAtomic { frames := 0, cells := 0, slots := 0, locals := 0 } (rd_Pc G vwC2 (tT cA) (mW cA a V) [.ref (a 0), .int x]) (k2_QcV (.int (z1 (mAt V x)))) 0 0 (fun _ => False) := by
  refine Met.ofW (cc := cM_isAtomic) (maxL := 4) (ret := some .boolean) (by decide) rfl ?_
  intro p e s m args below meth c s₁ B hml hv
  obtain ⟨rfl, hP, hK⟩ := hv
  have hx := B.exec
  have hb := B.bytes
  have hr := B.returns
  have hts := atoms_spec (ws := wsM_isAtomic) B.pre
  have hown : s.vm.findClass RX1 = some m.cls := findClass_of_methodNamed B.named
  have hlocks := B.notSynchronized
  have hfi : ∀ w ∈ u_ws RX1 TM 18, w ∈ wsM_isAtomic := fun w h => List.mem_cons_of_mem _ (wMA_f w h)
  have hl := lv_entry ([.ref (a 0), .int x]) (n := 4) (Nat.le_of_ble_eq_true rfl)
  rw [lg_entry_eq]
  generalize (lg_sl ([.ref (a 0), .int x]) ++ List.replicate (4 - (lg_sl ([.ref (a 0), .int x])).length) Slot.unset).toArray = ls at hl ⊢
  have hl : lv_has ls 4 [(0, .ref (a 0)), (1, .int x)] := hl
  refine lv_iconst (v := z1 true) hx hb dM_isAtomic_0 (by decide) ?_
  refine lv_istore_n (lv' := [(2, .int (z1 true)), (0, .ref (a 0)), (1, .int x)]) hx hb dM_isAtomic_1 rfl hl (by decide) rfl (fun ls hl => ?_)
  refine lv_iconst (v := nI 1) hx hb dM_isAtomic_2 (by decide) ?_
  refine lv_istore_n (lv' := [(3, .int (nI 1)), (2, .int (z1 true)), (0, .ref (a 0)), (1, .int x)]) hx hb dM_isAtomic_3 rfl hl (by decide) rfl (fun ls hl => ?_)
  refine rd_loop (fun k ls => ∃ (i : Nat) (b : Bool), 1 ≤ i ∧ i + k = mnp V + 1 ∧ (b && !pu_any (fun k0 => decide (mf V 2 k0 = x)) k i) = mAt V x ∧ lv_has ls 4 [(3, .int (nI i)), (2, .int (z1 b)), (0, .ref (a 0)), (1, .int x)]) ?_ (mnp V) ls ⟨1, true, by omega, by omega, Bool.true_and _, (lv_sub hl [0, 1, 2, 3] rfl)⟩
  intro k4 ls ⟨i, b, hi, hk, hR, hl⟩ ih4
  refine lv_iload_n hx hb dM_isAtomic_4 rfl (lv_at hl 0 rfl) ?_
  refine lv_aload_n hx hb dM_isAtomic_5 rfl (lv_at hl 2 rfl) ?_
  refine va_get (D := G) (ci := 1) (v := .int (nI (mnp V))) (C := RX1) (T := TM) (N := 18) hx hb hts hfi hown hK hP 0 rfl rfl 1 (by decide) (hts (.fieldLink RX1 58 "PortRulesModel" "parts" "I") (by decide +kernel)) (fun _ h9 => h9) rfl dM_isAtomic_6 ?_
  refine nb_gt (tgt := 38) hx hb dM_isAtomic_9 (by decide) (by omega) (by omega) (fun c9 => ?_) (fun c9 => ?_)
  · refine lv_iload_n hx hb dM_isAtomic_38 rfl (lv_at hl 1 rfl) ?_
    exact rd_zret hx hb hr (z1_nar _) (z1_ne (by rw [← hR, show k4 = 0 by omega]; simp [pu_any])) dM_isAtomic_39 hlocks
  · obtain ⟨k4, rfl⟩ : ∃ z, k4 = z + 1 := ⟨k4 - 1, by omega⟩
    refine lv_iload_n hx hb dM_isAtomic_12 rfl (lv_at hl 1 rfl) ?_
    refine bb_eq (tgt := 30) hx hb dM_isAtomic_13 (by decide) (fun c13 => ?_) (fun c13 => ?_)
    · refine lv_iconst (v := z1 false) hx hb dM_isAtomic_30 (by decide) ?_
      refine lv_istore_n (lv' := [(2, .int (z1 false)), (3, .int (nI i)), (0, .ref (a 0)), (1, .int x)]) hx hb dM_isAtomic_31 rfl hl (by decide) rfl (fun ls hl => ?_)
      refine lv_iinc (v := nI (i + 1)) (lv' := [(3, .int (nI (i + 1))), (2, .int (z1 false)), (0, .ref (a 0)), (1, .int x)]) hx hb dM_isAtomic_32 hl (k := 1) rfl (ni_inc _) (by decide) rfl (fun ls hl => ?_)
      refine lv_goto (tgt := 4) hx hb dM_isAtomic_35 (by decide) ?_
      exact ih4 k4 ls (by omega) ⟨i + 1, false, by omega, by omega, by rw [← hR, c13]; simp, (lv_sub hl [0, 1, 2, 3] rfl)⟩
    · refine lv_aload_n hx hb dM_isAtomic_16 rfl (lv_at hl 2 rfl) ?_
      refine va_get (D := G) (ci := 1) (v := .ref (a 2)) (C := RX1) (T := TM) (N := 18) hx hb hts hfi hown hK hP 0 rfl rfl 2 (by decide) (hts (.fieldLink RX1 7 "PortRulesModel" "in" "[I") (by decide +kernel)) (fun _ h9 => h9) rfl dM_isAtomic_17 ?_
      refine lv_iload_n hx hb dM_isAtomic_20 rfl (lv_at hl 0 rfl) ?_
      refine rd_iald hx hb hK hP 1 0 rfl rfl (by omega) (by decide) dM_isAtomic_21 ?_
      refine lv_iload_n hx hb dM_isAtomic_22 rfl (lv_at hl 3 rfl) ?_
      refine lv_icmp_eq (tgt := 30) hx hb dM_isAtomic_23 (by decide) (fun c23 => ?_) (fun c23 => ?_)
      · refine lv_iconst (v := z1 false) hx hb dM_isAtomic_30 (by decide) ?_
        refine lv_istore_n (lv' := [(2, .int (z1 false)), (3, .int (nI i)), (0, .ref (a 0)), (1, .int x)]) hx hb dM_isAtomic_31 rfl hl (by decide) rfl (fun ls hl => ?_)
        refine lv_iinc (v := nI (i + 1)) (lv' := [(3, .int (nI (i + 1))), (2, .int (z1 false)), (0, .ref (a 0)), (1, .int x)]) hx hb dM_isAtomic_32 hl (k := 1) rfl (ni_inc _) (by decide) rfl (fun ls hl => ?_)
        refine lv_goto (tgt := 4) hx hb dM_isAtomic_35 (by decide) ?_
        exact ih4 k4 ls (by omega) ⟨i + 1, false, by omega, by omega, by rw [← hR, c13]; simp [pu_any, c23], (lv_sub hl [0, 1, 2, 3] rfl)⟩
      · refine lv_iconst (v := z1 true) hx hb dM_isAtomic_26 (by decide) ?_
        refine lv_goto (tgt := 31) hx hb dM_isAtomic_27 (by decide) ?_
        refine lv_istore_n (lv' := [(2, .int (z1 true)), (3, .int (nI i)), (0, .ref (a 0)), (1, .int x)]) hx hb dM_isAtomic_31 rfl hl (by decide) rfl (fun ls hl => ?_)
        refine lv_iinc (v := nI (i + 1)) (lv' := [(3, .int (nI (i + 1))), (2, .int (z1 true)), (0, .ref (a 0)), (1, .int x)]) hx hb dM_isAtomic_32 hl (k := 1) rfl (ni_inc _) (by decide) rfl (fun ls hl => ?_)
        refine lv_goto (tgt := 4) hx hb dM_isAtomic_35 (by decide) ?_
        exact ih4 k4 ls (by omega) ⟨i + 1, true, by omega, by omega, by rw [← hR, c13]; simp [pu_any, c23], (lv_sub hl [0, 1, 2, 3] rfl)⟩
set_option maxHeartbeats 4000000 in
set_option maxRecDepth 100000 in
theorem cm_isManaging (l : Launch) (G : va_G) (cA : Nat → ClassId) (a : Nat → Nat) (V : MV) (x : Int32)  : Met l yM_isManaging wsM_isManaging { frames := 0, cells := 0, slots := 0, locals := 0 } (rd_Pc G vwC2 (tT cA) (mW cA a V) [.ref (a 0), .int x]) (k2_QcV (.int (z1 (mMg V x)))) 0 0 (fun _ => False) := by
  refine Met.ofW (cc := cM_isManaging) (maxL := 4) (ret := some .boolean) (by decide) rfl ?_
  intro p e s m args below meth c s₁ B hml hv
  obtain ⟨rfl, hP, hK⟩ := hv
  have hx := B.exec
  have hb := B.bytes
  have hr := B.returns
  have hts := atoms_spec (ws := wsM_isManaging) B.pre
  have hown : s.vm.findClass RX1 = some m.cls := findClass_of_methodNamed B.named
  have hlocks := B.notSynchronized
  have hfi : ∀ w ∈ u_ws RX1 TM 18, w ∈ wsM_isManaging := fun w h => List.mem_cons_of_mem _ (wMA_f w h)
  have hl := lv_entry ([.ref (a 0), .int x]) (n := 4) (Nat.le_of_ble_eq_true rfl)
  rw [lg_entry_eq]
  generalize (lg_sl ([.ref (a 0), .int x]) ++ List.replicate (4 - (lg_sl ([.ref (a 0), .int x])).length) Slot.unset).toArray = ls at hl ⊢
  have hl : lv_has ls 4 [(0, .ref (a 0)), (1, .int x)] := hl
  refine lv_iconst (v := z1 false) hx hb dM_isManaging_0 (by decide) ?_
  refine lv_istore_n (lv' := [(2, .int (z1 false)), (0, .ref (a 0)), (1, .int x)]) hx hb dM_isManaging_1 rfl hl (by decide) rfl (fun ls hl => ?_)
  refine lv_iconst (v := nI 0) hx hb dM_isManaging_2 (by decide) ?_
  refine lv_istore_n (lv' := [(3, .int (nI 0)), (2, .int (z1 false)), (0, .ref (a 0)), (1, .int x)]) hx hb dM_isManaging_3 rfl hl (by decide) rfl (fun ls hl => ?_)
  refine rd_loop (fun k ls => ∃ (i : Nat) (b : Bool), i + k = 10 ∧ (b || pu_any (fun k0 => decide (mf V 14 k0 = x)) k i) = mMg V x ∧ lv_has ls 4 [(3, .int (nI i)), (2, .int (z1 b)), (0, .ref (a 0)), (1, .int x)]) ?_ 10 ls ⟨0, false, by omega, Bool.false_or _, (lv_sub hl [0, 1, 2, 3] rfl)⟩
  intro k4 ls ⟨i, b, hk, hR, hl⟩ ih4
  refine lv_iload_n hx hb dM_isManaging_4 rfl (lv_at hl 0 rfl) ?_
  refine lv_bipush (v := nI 10) hx hb dM_isManaging_5 (by decide) ?_
  refine nb_ge (tgt := 36) hx hb dM_isManaging_7 (by decide) (by omega) (by omega) (fun c7 => ?_) (fun c7 => ?_)
  · refine lv_iload_n hx hb dM_isManaging_36 rfl (lv_at hl 1 rfl) ?_
    exact rd_zret hx hb hr (z1_nar _) (z1_ne (by rw [← hR, show k4 = 0 by omega]; simp [pu_any])) dM_isManaging_37 hlocks
  · obtain ⟨k4, rfl⟩ : ∃ z, k4 = z + 1 := ⟨k4 - 1, by omega⟩
    refine lv_iload_n hx hb dM_isManaging_10 rfl (lv_at hl 1 rfl) ?_
    refine bb_ne (tgt := 24) hx hb dM_isManaging_11 (by decide) (fun c11 => ?_) (fun c11 => ?_)
    · refine lv_iconst (v := z1 true) hx hb dM_isManaging_24 (by decide) ?_
      refine lv_goto (tgt := 29) hx hb dM_isManaging_25 (by decide) ?_
      refine lv_istore_n (lv' := [(2, .int (z1 true)), (3, .int (nI i)), (0, .ref (a 0)), (1, .int x)]) hx hb dM_isManaging_29 rfl hl (by decide) rfl (fun ls hl => ?_)
      refine lv_iinc (v := nI (i + 1)) (lv' := [(3, .int (nI (i + 1))), (2, .int (z1 true)), (0, .ref (a 0)), (1, .int x)]) hx hb dM_isManaging_30 hl (k := 1) rfl (ni_inc _) (by decide) rfl (fun ls hl => ?_)
      refine lv_goto (tgt := 4) hx hb dM_isManaging_33 (by decide) ?_
      exact ih4 k4 ls (by omega) ⟨i + 1, true, by omega, by rw [← hR, c11]; simp, (lv_sub hl [0, 1, 2, 3] rfl)⟩
    · refine lv_aload_n hx hb dM_isManaging_14 rfl (lv_at hl 2 rfl) ?_
      refine va_get (D := G) (ci := 1) (v := .ref (a 14)) (C := RX1) (T := TM) (N := 18) hx hb hts hfi hown hK hP 0 rfl rfl 14 (by decide) (hts (.fieldLink RX1 45 "PortRulesModel" "manager" "[I") (by decide +kernel)) (fun _ h9 => h9) rfl dM_isManaging_15 ?_
      refine lv_iload_n hx hb dM_isManaging_18 rfl (lv_at hl 0 rfl) ?_
      refine rd_iald hx hb hK hP 12 0 rfl rfl (by omega) (by decide) dM_isManaging_19 ?_
      refine lv_iload_n hx hb dM_isManaging_20 rfl (lv_at hl 3 rfl) ?_
      refine lv_icmp_ne (tgt := 28) hx hb dM_isManaging_21 (by decide) (fun c21 => ?_) (fun c21 => ?_)
      · refine lv_iconst (v := z1 false) hx hb dM_isManaging_28 (by decide) ?_
        refine lv_istore_n (lv' := [(2, .int (z1 false)), (3, .int (nI i)), (0, .ref (a 0)), (1, .int x)]) hx hb dM_isManaging_29 rfl hl (by decide) rfl (fun ls hl => ?_)
        refine lv_iinc (v := nI (i + 1)) (lv' := [(3, .int (nI (i + 1))), (2, .int (z1 false)), (0, .ref (a 0)), (1, .int x)]) hx hb dM_isManaging_30 hl (k := 1) rfl (ni_inc _) (by decide) rfl (fun ls hl => ?_)
        refine lv_goto (tgt := 4) hx hb dM_isManaging_33 (by decide) ?_
        exact ih4 k4 ls (by omega) ⟨i + 1, false, by omega, by rw [← hR, c11]; simp [pu_any, c21], (lv_sub hl [0, 1, 2, 3] rfl)⟩
      · refine lv_iconst (v := z1 true) hx hb dM_isManaging_24 (by decide) ?_
        refine lv_goto (tgt := 29) hx hb dM_isManaging_25 (by decide) ?_
        refine lv_istore_n (lv' := [(2, .int (z1 true)), (3, .int (nI i)), (0, .ref (a 0)), (1, .int x)]) hx hb dM_isManaging_29 rfl hl (by decide) rfl (fun ls hl => ?_)
        refine lv_iinc (v := nI (i + 1)) (lv' := [(3, .int (nI (i + 1))), (2, .int (z1 true)), (0, .ref (a 0)), (1, .int x)]) hx hb dM_isManaging_30 hl (k := 1) rfl (ni_inc _) (by decide) rfl (fun ls hl => ?_)
        refine lv_goto (tgt := 4) hx hb dM_isManaging_33 (by decide) ?_
        exact ih4 k4 ls (by omega) ⟨i + 1, true, by omega, by rw [← hR, c11]; simp [pu_any, c21], (lv_sub hl [0, 1, 2, 3] rfl)⟩
set_option maxHeartbeats 4000000 in
set_option maxRecDepth 100000 in
theorem cm_isFlat (l : Launch) (G : va_G) (cA : Nat → ClassId) (a : Nat → Nat) (V : MV) (p0 q0 : Nat) (h30 : mnp V ≤ 30) (h60 : mnq V ≤ 60) (hkn : mKn V) (hp1 : 1 ≤ p0) (hp2 : p0 ≤ mnq V) (hq1 : 1 ≤ q0) (hq2 : q0 ≤ mnq V) : Met l yM_isFlat wsM_isFlat { frames := 1, cells := 0, slots := 0, locals := 23 } (rd_Pc G vwC2 (tT cA) (mW cA a V) [.ref (a 0), .int (nI p0), .int (nI q0)]) (k2_QcV (.int (z1 (mF V p0 q0)))) 0 0 (fun _ => False) := by
  refine Met.ofW (cc := cM_isFlat) (maxL := 3) (ret := some .boolean) (by decide) rfl ?_
  intro p e s m args below meth c s₁ B hml hv
  obtain ⟨rfl, hP, hK⟩ := hv
  have hx := B.exec
  have hb := B.bytes
  have hr := B.returns
  have hts := atoms_spec (ws := wsM_isFlat) B.pre
  have hown : s.vm.findClass RX1 = some m.cls := findClass_of_methodNamed B.named
  have hlocks := B.notSynchronized
  have hfi : ∀ w ∈ u_ws RX1 TM 18, w ∈ wsM_isFlat := fun w h => List.mem_cons_of_mem _ (wMA_f w h)
  have hl := lv_entry ([.ref (a 0), .int (nI p0), .int (nI q0)]) (n := 3) (Nat.le_of_ble_eq_true rfl)
  rw [lg_entry_eq]
  generalize (lg_sl ([.ref (a 0), .int (nI p0), .int (nI q0)]) ++ List.replicate (3 - (lg_sl ([.ref (a 0), .int (nI p0), .int (nI q0)])).length) Slot.unset).toArray = ls at hl ⊢
  have hl : lv_has ls 3 [(0, .ref (a 0)), (1, .int (nI p0)), (2, .int (nI q0))] := hl
  refine lv_aload_n hx hb dM_isFlat_0 rfl (lv_at hl 0 rfl) ?_
  refine va_get (D := G) (ci := 1) (v := .ref (a 6)) (C := RX1) (T := TM) (N := 18) hx hb hts hfi hown hK hP 0 rfl rfl 6 (by decide) (hts (.fieldLink RX1 19 "PortRulesModel" "provides" "[Z") (by decide +kernel)) (fun _ h9 => h9) rfl dM_isFlat_1 ?_
  refine lv_iload_n hx hb dM_isFlat_4 rfl (lv_at hl 1 rfl) ?_
  refine rd_zald hx hb hK hP 4 1 rfl rfl (by omega) (by decide) dM_isFlat_5 ?_
  refine lv_if_eq (tgt := 62) hx hb dM_isFlat_6 (by decide) (fun c6 => ?_) (fun c6 => ?_)
  · refine lv_iconst (v := 0) hx hb dM_isFlat_62 (by decide) ?_
    exact rd_zret hx hb hr rfl (z1_f (by unfold mF; rw [← hkn p0 q0 hp1 hp2 hq1 hq2]; simp [c6])) dM_isFlat_63 hlocks
  · refine lv_aload_n hx hb dM_isFlat_9 rfl (lv_at hl 0 rfl) ?_
    refine va_get (D := G) (ci := 1) (v := .ref (a 6)) (C := RX1) (T := TM) (N := 18) hx hb hts hfi hown hK hP 0 rfl rfl 6 (by decide) (hts (.fieldLink RX1 19 "PortRulesModel" "provides" "[Z") (by decide +kernel)) (fun _ h9 => h9) rfl dM_isFlat_10 ?_
    refine lv_iload_n hx hb dM_isFlat_13 rfl (lv_at hl 2 rfl) ?_
    refine rd_zald hx hb hK hP 4 1 rfl rfl (by omega) (by decide) dM_isFlat_14 ?_
    refine lv_if_ne (tgt := 62) hx hb dM_isFlat_15 (by decide) (fun c15 => ?_) (fun c15 => ?_)
    · refine lv_iconst (v := 0) hx hb dM_isFlat_62 (by decide) ?_
      exact rd_zret hx hb hr rfl (z1_f (by unfold mF; rw [← hkn p0 q0 hp1 hp2 hq1 hq2]; simp [c15, c6])) dM_isFlat_63 hlocks
    · refine lv_aload_n hx hb dM_isFlat_18 rfl (lv_at hl 0 rfl) ?_
      refine va_get (D := G) (ci := 1) (v := .ref (a 16)) (C := RX1) (T := TM) (N := 18) hx hb hts hfi hown hK hP 0 rfl rfl 16 (by decide) (hts (.fieldLink RX1 51 "PortRulesModel" "reaches" "[Z") (by decide +kernel)) (fun _ h9 => h9) rfl dM_isFlat_19 ?_
      refine lv_bipush (v := nI 61) hx hb dM_isFlat_22 (by decide) ?_
      refine lv_iload_n hx hb dM_isFlat_24 rfl (lv_at hl 1 rfl) ?_
      refine lv_imul hx hb dM_isFlat_25 ?_
      refine rd_topi (y := nI (61 * p0)) (pk_mul _ _) ?_
      refine lv_iload_n hx hb dM_isFlat_26 rfl (lv_at hl 2 rfl) ?_
      refine lv_iadd hx hb dM_isFlat_27 ?_
      refine rd_topi (y := nI (61 * p0 + q0)) (nI_add _ _) ?_
      refine rd_zald hx hb hK hP 14 1 rfl rfl (by omega) (by decide) dM_isFlat_28 ?_
      refine lv_if_eq (tgt := 62) hx hb dM_isFlat_29 (by decide) (fun c29 => ?_) (fun c29 => ?_)
      · refine lv_iconst (v := 0) hx hb dM_isFlat_62 (by decide) ?_
        exact rd_zret hx hb hr rfl (z1_f (by unfold mF; rw [← hkn p0 q0 hp1 hp2 hq1 hq2]; simp [c15, c29, c6])) dM_isFlat_63 hlocks
      · refine lv_aload_n hx hb dM_isFlat_32 rfl (lv_at hl 0 rfl) ?_
        refine lv_aload_n hx hb dM_isFlat_33 rfl (lv_at hl 0 rfl) ?_
        refine va_get (D := G) (ci := 1) (v := .ref (a 4)) (C := RX1) (T := TM) (N := 18) hx hb hts hfi hown hK hP 0 rfl rfl 4 (by decide) (hts (.fieldLink RX1 13 "PortRulesModel" "partOf" "[I") (by decide +kernel)) (fun _ h9 => h9) rfl dM_isFlat_34 ?_
        refine lv_iload_n hx hb dM_isFlat_37 rfl (lv_at hl 1 rfl) ?_
        refine rd_iald hx hb hK hP 2 0 rfl rfl (by omega) (by decide) dM_isFlat_38 ?_
        refine rd_callV (As := [.int (mf V 4 p0)]) (rest := []) (b := a 0) (q0 := 0) (ci := 1) ⟨hx, hb, hml, hown, hts⟩ (cm_isAtomic l G cA a V (mf V 4 p0) h30) (cwV 1 hts gM_isFlat_M_isAtomic rfl rfl rfl (by decide +kernel) ⟨Nat.le_of_ble_eq_true rfl, Nat.le_of_ble_eq_true rfl⟩) hK hP rfl rfl rfl rfl hl.1 rfl (Nat.le_of_ble_eq_true rfl) dM_isFlat_39 ⟨Nat.zero_le _, Nat.zero_le _⟩ ?_
        refine bb_eq (tgt := 62) hx hb dM_isFlat_42 (by decide) (fun c42 => ?_) (fun c42 => ?_)
        · refine lv_iconst (v := 0) hx hb dM_isFlat_62 (by decide) ?_
          exact rd_zret hx hb hr rfl (z1_f (by unfold mF; rw [← hkn p0 q0 hp1 hp2 hq1 hq2]; simp [c15, c29, c42, c6])) dM_isFlat_63 hlocks
        · refine lv_aload_n hx hb dM_isFlat_45 rfl (lv_at hl 0 rfl) ?_
          refine lv_aload_n hx hb dM_isFlat_46 rfl (lv_at hl 0 rfl) ?_
          refine va_get (D := G) (ci := 1) (v := .ref (a 4)) (C := RX1) (T := TM) (N := 18) hx hb hts hfi hown hK hP 0 rfl rfl 4 (by decide) (hts (.fieldLink RX1 13 "PortRulesModel" "partOf" "[I") (by decide +kernel)) (fun _ h9 => h9) rfl dM_isFlat_47 ?_
          refine lv_iload_n hx hb dM_isFlat_50 rfl (lv_at hl 2 rfl) ?_
          refine rd_iald hx hb hK hP 2 0 rfl rfl (by omega) (by decide) dM_isFlat_51 ?_
          refine rd_callV (As := [.int (mf V 4 q0)]) (rest := []) (b := a 0) (q0 := 0) (ci := 1) ⟨hx, hb, hml, hown, hts⟩ (cm_isAtomic l G cA a V (mf V 4 q0) h30) (cwV 1 hts gM_isFlat_M_isAtomic rfl rfl rfl (by decide +kernel) ⟨Nat.le_of_ble_eq_true rfl, Nat.le_of_ble_eq_true rfl⟩) hK hP rfl rfl rfl rfl hl.1 rfl (Nat.le_of_ble_eq_true rfl) dM_isFlat_52 ⟨Nat.zero_le _, Nat.zero_le _⟩ ?_
          refine bb_eq (tgt := 62) hx hb dM_isFlat_55 (by decide) (fun c55 => ?_) (fun c55 => ?_)
          · refine lv_iconst (v := 0) hx hb dM_isFlat_62 (by decide) ?_
            exact rd_zret hx hb hr rfl (z1_f (by unfold mF; rw [← hkn p0 q0 hp1 hp2 hq1 hq2]; simp [c15, c29, c42, c55, c6])) dM_isFlat_63 hlocks
          · refine lv_iconst (v := 1) hx hb dM_isFlat_58 (by decide) ?_
            refine lv_goto (tgt := 63) hx hb dM_isFlat_59 (by decide) ?_
            exact rd_zret hx hb hr rfl (z1_t (by unfold mF; rw [← hkn p0 q0 hp1 hp2 hq1 hq2]; simp [c15, c29, c42, c55, c6])) dM_isFlat_63 hlocks
set_option maxHeartbeats 4000000 in
set_option maxRecDepth 100000 in
theorem cm_isReading (l : Launch) (G : va_G) (cA : Nat → ClassId) (a : Nat → Nat) (V : MV) (q0 : Nat) (h30 : mnp V ≤ 30) (hq : q0 ≤ 60) : Met l yM_isReading wsM_isReading { frames := 1, cells := 0, slots := 0, locals := 23 } (rd_Pc G vwC2 (tT cA) (mW cA a V) [.ref (a 0), .int (nI q0)]) (k2_QcV (.int (z1 (mRd V q0)))) 0 0 (fun _ => False) := by
  refine Met.ofW (cc := cM_isReading) (maxL := 2) (ret := some .boolean) (by decide) rfl ?_
  intro p e s m args below meth c s₁ B hml hv
  obtain ⟨rfl, hP, hK⟩ := hv
  have hx := B.exec
  have hb := B.bytes
  have hr := B.returns
  have hts := atoms_spec (ws := wsM_isReading) B.pre
  have hown : s.vm.findClass RX1 = some m.cls := findClass_of_methodNamed B.named
  have hlocks := B.notSynchronized
  have hfi : ∀ w ∈ u_ws RX1 TM 18, w ∈ wsM_isReading := fun w h => List.mem_cons_of_mem _ (wMA_f w h)
  have hl := lv_entry ([.ref (a 0), .int (nI q0)]) (n := 2) (Nat.le_of_ble_eq_true rfl)
  rw [lg_entry_eq]
  generalize (lg_sl ([.ref (a 0), .int (nI q0)]) ++ List.replicate (2 - (lg_sl ([.ref (a 0), .int (nI q0)])).length) Slot.unset).toArray = ls at hl ⊢
  have hl : lv_has ls 2 [(0, .ref (a 0)), (1, .int (nI q0))] := hl
  refine lv_aload_n hx hb dM_isReading_0 rfl (lv_at hl 0 rfl) ?_
  refine va_get (D := G) (ci := 1) (v := .ref (a 6)) (C := RX1) (T := TM) (N := 18) hx hb hts hfi hown hK hP 0 rfl rfl 6 (by decide) (hts (.fieldLink RX1 19 "PortRulesModel" "provides" "[Z") (by decide +kernel)) (fun _ h9 => h9) rfl dM_isReading_1 ?_
  refine lv_iload_n hx hb dM_isReading_4 rfl (lv_at hl 1 rfl) ?_
  refine rd_zald hx hb hK hP 4 1 rfl rfl (by omega) (by decide) dM_isReading_5 ?_
  refine lv_if_ne (tgt := 26) hx hb dM_isReading_6 (by decide) (fun c6 => ?_) (fun c6 => ?_)
  · refine lv_iconst (v := 0) hx hb dM_isReading_26 (by decide) ?_
    exact rd_zret hx hb hr rfl (z1_f (by unfold mRd; simp [c6])) dM_isReading_27 hlocks
  · refine lv_aload_n hx hb dM_isReading_9 rfl (lv_at hl 0 rfl) ?_
    refine lv_aload_n hx hb dM_isReading_10 rfl (lv_at hl 0 rfl) ?_
    refine va_get (D := G) (ci := 1) (v := .ref (a 4)) (C := RX1) (T := TM) (N := 18) hx hb hts hfi hown hK hP 0 rfl rfl 4 (by decide) (hts (.fieldLink RX1 13 "PortRulesModel" "partOf" "[I") (by decide +kernel)) (fun _ h9 => h9) rfl dM_isReading_11 ?_
    refine lv_iload_n hx hb dM_isReading_14 rfl (lv_at hl 1 rfl) ?_
    refine rd_iald hx hb hK hP 2 0 rfl rfl (by omega) (by decide) dM_isReading_15 ?_
    refine rd_callV (As := [.int (mf V 4 q0)]) (rest := []) (b := a 0) (q0 := 0) (ci := 1) ⟨hx, hb, hml, hown, hts⟩ (cm_isAtomic l G cA a V (mf V 4 q0) h30) (cwV 1 hts gM_isReading_M_isAtomic rfl rfl rfl (by decide +kernel) ⟨Nat.le_of_ble_eq_true rfl, Nat.le_of_ble_eq_true rfl⟩) hK hP rfl rfl rfl rfl hl.1 rfl (Nat.le_of_ble_eq_true rfl) dM_isReading_16 ⟨Nat.zero_le _, Nat.zero_le _⟩ ?_
    refine bb_eq (tgt := 26) hx hb dM_isReading_19 (by decide) (fun c19 => ?_) (fun c19 => ?_)
    · refine lv_iconst (v := 0) hx hb dM_isReading_26 (by decide) ?_
      exact rd_zret hx hb hr rfl (z1_f (by unfold mRd; simp [c19, c6])) dM_isReading_27 hlocks
    · refine lv_iconst (v := 1) hx hb dM_isReading_22 (by decide) ?_
      refine lv_goto (tgt := 27) hx hb dM_isReading_23 (by decide) ?_
      exact rd_zret hx hb hr rfl (z1_t (by unfold mRd; simp [c19, c6])) dM_isReading_27 hlocks
set_option maxHeartbeats 4000000 in
set_option maxRecDepth 100000 in
theorem cm_thrown (l : Launch) (G : va_G) (cA : Nat → ClassId) (a : Nat → Nat) (V : MV)   : Met l yM_thrown wsM_thrown { frames := 0, cells := 0, slots := 0, locals := 0 } (rd_Pc G vwC2 (tT cA) (mW cA a V) [.ref (a 0)]) (k2_QcV (.int (mco V))) 0 0 (fun _ => False) := by
  refine Met.ofW (cc := cM_thrown) (maxL := 1) (ret := some .int) (by decide) rfl ?_
  intro p e s m args below meth c s₁ B hml hv
  obtain ⟨rfl, hP, hK⟩ := hv
  have hx := B.exec
  have hb := B.bytes
  have hr := B.returns
  have hts := atoms_spec (ws := wsM_thrown) B.pre
  have hown : s.vm.findClass RX1 = some m.cls := findClass_of_methodNamed B.named
  have hlocks := B.notSynchronized
  have hfi : ∀ w ∈ u_ws RX1 TM 18, w ∈ wsM_thrown := fun w h => List.mem_cons_of_mem _ (wMA_f w h)
  have hl := lv_entry ([.ref (a 0)]) (n := 1) (Nat.le_of_ble_eq_true rfl)
  rw [lg_entry_eq]
  generalize (lg_sl ([.ref (a 0)]) ++ List.replicate (1 - (lg_sl ([.ref (a 0)])).length) Slot.unset).toArray = ls at hl ⊢
  have hl : lv_has ls 1 [(0, .ref (a 0))] := hl
  refine lv_aload_n hx hb dM_thrown_0 rfl (lv_at hl 0 rfl) ?_
  refine va_get (D := G) (ci := 1) (v := .int (mco V)) (C := RX1) (T := TM) (N := 18) hx hb hts hfi hown hK hP 0 rfl rfl 0 (by decide) (hts (.fieldLink RX1 54 "PortRulesModel" "code" "I") (by decide +kernel)) (fun _ h9 => h9) rfl dM_thrown_1 ?_
  exact rd_iret hx hb hr (rfl) dM_thrown_4 hlocks
set_option maxHeartbeats 4000000 in
set_option maxRecDepth 100000 in
theorem cm_isBroken (l : Launch) (G : va_G) (cA : Nat → ClassId) (a : Nat → Nat) (V : MV) (r0 p0 q0 : Nat) (hr0 : r0 ≤ 9) (hp : p0 ≤ 60) (hq : q0 ≤ 60) (hdv : 0 ≤ (mf V 7 p0).toInt → 0 ≤ (mf V 7 q0).toInt → ¬ mg V 9 p0 * mg V 8 q0 = 0) : Met l yM_isBroken wsM_isBroken { frames := 1, cells := 0, slots := 0, locals := 23 } (rd_Pc G vwC2 (tT cA) (mW cA a V) [.ref (a 0), .int (nI r0), .int (nI p0), .int (nI q0)]) (k2_QcV (.int (z1 (mCB V r0 p0 q0)))) 0 0 (fun _ => False) := by
  refine Met.ofW (cc := cM_isBroken) (maxL := 5) (ret := some .boolean) (by decide) rfl ?_
  intro p e s m args below meth c s₁ B hml hv
  obtain ⟨rfl, hP, hK⟩ := hv
  have hx := B.exec
  have hb := B.bytes
  have hr := B.returns
  have hts := atoms_spec (ws := wsM_isBroken) B.pre
  have hown : s.vm.findClass RX1 = some m.cls := findClass_of_methodNamed B.named
  have hlocks := B.notSynchronized
  have hfi : ∀ w ∈ u_ws RX1 TM 18, w ∈ wsM_isBroken := fun w h => List.mem_cons_of_mem _ (wMA_f w h)
  have hl := lv_entry ([.ref (a 0), .int (nI r0), .int (nI p0), .int (nI q0)]) (n := 5) (Nat.le_of_ble_eq_true rfl)
  rw [lg_entry_eq]
  generalize (lg_sl ([.ref (a 0), .int (nI r0), .int (nI p0), .int (nI q0)]) ++ List.replicate (5 - (lg_sl ([.ref (a 0), .int (nI r0), .int (nI p0), .int (nI q0)])).length) Slot.unset).toArray = ls at hl ⊢
  have hl : lv_has ls 5 [(0, .ref (a 0)), (1, .int (nI r0)), (2, .int (nI p0)), (3, .int (nI q0))] := hl
  refine lv_aload_n hx hb dM_isBroken_0 rfl (lv_at hl 0 rfl) ?_
  refine va_get (D := G) (ci := 1) (v := .ref (a 7)) (C := RX1) (T := TM) (N := 18) hx hb hts hfi hown hK hP 0 rfl rfl 7 (by decide) (hts (.fieldLink RX1 23 "PortRulesModel" "unit" "[I") (by decide +kernel)) (fun _ h9 => h9) rfl dM_isBroken_1 ?_
  refine lv_iload_n hx hb dM_isBroken_4 rfl (lv_at hl 2 rfl) ?_
  refine rd_iald hx hb hK hP 5 0 rfl rfl (by omega) (by decide) dM_isBroken_5 ?_
  refine bz_lt (a := (mf V 7 p0).toInt) (tgt := 22) hx hb dM_isBroken_6 (by decide) rfl (fun c6 => ?_) (fun c6 => ?_)
  · refine lv_iconst (v := 0) hx hb dM_isBroken_22 (by decide) ?_
    refine lv_istore (lv' := [(4, .int 0), (0, .ref (a 0)), (1, .int (nI r0)), (2, .int (nI p0)), (3, .int (nI q0))]) hx hb dM_isBroken_23 hl (by decide) rfl (fun ls hl => ?_)
    refine lv_iload_n hx hb dM_isBroken_25 rfl (lv_at hl 2 rfl) ?_
    by_cases r1 : r0 = 1
    · subst r1
      refine lv_tableIn (off := 30) (tgt := 56) hx hb dM_isBroken_26 (by decide) (by decide) (by decide) (by decide) ?_
      refine lv_aload_n hx hb dM_isBroken_56 rfl (lv_at hl 1 rfl) ?_
      refine va_get (D := G) (ci := 1) (v := .ref (a 7)) (C := RX1) (T := TM) (N := 18) hx hb hts hfi hown hK hP 0 rfl rfl 7 (by decide) (hts (.fieldLink RX1 23 "PortRulesModel" "unit" "[I") (by decide +kernel)) (fun _ h9 => h9) rfl dM_isBroken_57 ?_
      refine lv_iload_n hx hb dM_isBroken_60 rfl (lv_at hl 3 rfl) ?_
      refine rd_iald hx hb hK hP 5 0 rfl rfl (by omega) (by decide) dM_isBroken_61 ?_
      refine bz_lt (a := (mf V 7 p0).toInt) (tgt := 69) hx hb dM_isBroken_62 (by decide) rfl (fun c62 => ?_) (fun c62 => ?_)
      · refine lv_iconst (v := 0) hx hb dM_isBroken_69 (by decide) ?_
        refine lv_aload_n hx hb dM_isBroken_70 rfl (lv_at hl 1 rfl) ?_
        refine va_get (D := G) (ci := 1) (v := .ref (a 7)) (C := RX1) (T := TM) (N := 18) hx hb hts hfi hown hK hP 0 rfl rfl 7 (by decide) (hts (.fieldLink RX1 23 "PortRulesModel" "unit" "[I") (by decide +kernel)) (fun _ h9 => h9) rfl dM_isBroken_71 ?_
        refine lv_iload_n hx hb dM_isBroken_74 rfl (lv_at hl 4 rfl) ?_
        refine rd_iald hx hb hK hP 5 0 rfl rfl (by omega) (by decide) dM_isBroken_75 ?_
        refine bz_lt (a := (mf V 7 q0).toInt) (tgt := 83) hx hb dM_isBroken_76 (by decide) rfl (fun c76 => ?_) (fun c76 => ?_)
        · refine lv_iconst (v := 0) hx hb dM_isBroken_83 (by decide) ?_
          refine lv_icmp_eq (tgt := 91) hx hb dM_isBroken_84 (by decide) (fun _ => ?_) (fun c84 => absurd c84 (by decide))
          refine lv_iconst (v := 0) hx hb dM_isBroken_91 (by decide) ?_
          exact rd_zret hx hb hr rfl (z1_f (by first | omega | (unfold mCB mBo lrm; simp [c6, c62, c76] <;> omega))) dM_isBroken_92 hlocks
        · refine lv_iconst (v := 1) hx hb dM_isBroken_79 (by decide) ?_
          refine lv_goto (tgt := 84) hx hb dM_isBroken_80 (by decide) ?_
          refine lv_icmp_eq (tgt := 91) hx hb dM_isBroken_84 (by decide) (fun c84 => absurd c84 (by decide)) (fun _ => ?_)
          refine lv_iconst (v := 1) hx hb dM_isBroken_87 (by decide) ?_
          refine lv_goto (tgt := 92) hx hb dM_isBroken_88 (by decide) ?_
          exact rd_zret hx hb hr rfl (z1_t (by first | omega | (unfold mCB mBo lrm; simp [c6, c62, c76] <;> omega))) dM_isBroken_92 hlocks
      · refine lv_iconst (v := 1) hx hb dM_isBroken_65 (by decide) ?_
        refine lv_goto (tgt := 70) hx hb dM_isBroken_66 (by decide) ?_
        refine lv_aload_n hx hb dM_isBroken_70 rfl (lv_at hl 1 rfl) ?_
        refine va_get (D := G) (ci := 1) (v := .ref (a 7)) (C := RX1) (T := TM) (N := 18) hx hb hts hfi hown hK hP 0 rfl rfl 7 (by decide) (hts (.fieldLink RX1 23 "PortRulesModel" "unit" "[I") (by decide +kernel)) (fun _ h9 => h9) rfl dM_isBroken_71 ?_
        refine lv_iload_n hx hb dM_isBroken_74 rfl (lv_at hl 4 rfl) ?_
        refine rd_iald hx hb hK hP 5 0 rfl rfl (by omega) (by decide) dM_isBroken_75 ?_
        refine bz_lt (a := (mf V 7 q0).toInt) (tgt := 83) hx hb dM_isBroken_76 (by decide) rfl (fun c76 => ?_) (fun c76 => ?_)
        · refine lv_iconst (v := 0) hx hb dM_isBroken_83 (by decide) ?_
          refine lv_icmp_eq (tgt := 91) hx hb dM_isBroken_84 (by decide) (fun c84 => absurd c84 (by decide)) (fun _ => ?_)
          refine lv_iconst (v := 1) hx hb dM_isBroken_87 (by decide) ?_
          refine lv_goto (tgt := 92) hx hb dM_isBroken_88 (by decide) ?_
          exact rd_zret hx hb hr rfl (z1_t (by first | omega | (unfold mCB mBo lrm; simp [c6, c62, c76] <;> omega))) dM_isBroken_92 hlocks
        · refine lv_iconst (v := 1) hx hb dM_isBroken_79 (by decide) ?_
          refine lv_goto (tgt := 84) hx hb dM_isBroken_80 (by decide) ?_
          refine lv_icmp_eq (tgt := 91) hx hb dM_isBroken_84 (by decide) (fun _ => ?_) (fun c84 => absurd c84 (by decide))
          refine lv_iconst (v := 0) hx hb dM_isBroken_91 (by decide) ?_
          exact rd_zret hx hb hr rfl (z1_f (by first | omega | (unfold mCB mBo lrm; simp [c6, c62, c76] <;> omega))) dM_isBroken_92 hlocks
    · skip
      by_cases r2 : r0 = 2
      · subst r2
        refine lv_tableIn (off := 67) (tgt := 93) hx hb dM_isBroken_26 (by decide) (by decide) (by decide) (by decide) ?_
        refine lv_iload hx hb dM_isBroken_93 (lv_at hl 0 rfl) ?_
        refine lv_if_eq (tgt := 117) hx hb dM_isBroken_95 (by decide) (fun _ => ?_) (fun c95 => absurd c95 (by decide))
        refine lv_iconst (v := 0) hx hb dM_isBroken_117 (by decide) ?_
        exact rd_zret hx hb hr rfl (z1_f (by first | omega | (unfold mCB mBo lrm; simp [c6] <;> omega))) dM_isBroken_118 hlocks
      · skip
        by_cases r3 : r0 = 3
        · subst r3
          refine lv_tableIn (off := 93) (tgt := 119) hx hb dM_isBroken_26 (by decide) (by decide) (by decide) (by decide) ?_
          refine lv_iload hx hb dM_isBroken_119 (lv_at hl 0 rfl) ?_
          refine lv_if_eq (tgt := 160) hx hb dM_isBroken_121 (by decide) (fun _ => ?_) (fun c121 => absurd c121 (by decide))
          refine lv_iconst (v := 0) hx hb dM_isBroken_160 (by decide) ?_
          exact rd_zret hx hb hr rfl (z1_f (by first | omega | (unfold mCB mBo lrm; simp [c6] <;> omega))) dM_isBroken_161 hlocks
        · skip
          by_cases r4 : r0 = 4
          · subst r4
            refine lv_tableIn (off := 136) (tgt := 162) hx hb dM_isBroken_26 (by decide) (by decide) (by decide) (by decide) ?_
            refine lv_aload_n hx hb dM_isBroken_162 rfl (lv_at hl 1 rfl) ?_
            refine va_get (D := G) (ci := 1) (v := .ref (a 10)) (C := RX1) (T := TM) (N := 18) hx hb hts hfi hown hK hP 0 rfl rfl 10 (by decide) (hts (.fieldLink RX1 33 "PortRulesModel" "version" "[I") (by decide +kernel)) (fun _ h9 => h9) rfl dM_isBroken_163 ?_
            refine lv_iload_n hx hb dM_isBroken_166 rfl (lv_at hl 4 rfl) ?_
            refine rd_iald hx hb hK hP 8 0 rfl rfl (by omega) (by decide) dM_isBroken_167 ?_
            refine bz_lt (a := (mf V 10 q0).toInt) (tgt := 211) hx hb dM_isBroken_168 (by decide) rfl (fun c168 => ?_) (fun c168 => ?_)
            · refine lv_iconst (v := 0) hx hb dM_isBroken_211 (by decide) ?_
              exact rd_zret hx hb hr rfl (z1_f (by first | omega | (unfold mCB mBo lrm; simp [c168, c6] <;> omega))) dM_isBroken_212 hlocks
            · refine lv_aload_n hx hb dM_isBroken_171 rfl (lv_at hl 1 rfl) ?_
              refine va_get (D := G) (ci := 1) (v := .ref (a 10)) (C := RX1) (T := TM) (N := 18) hx hb hts hfi hown hK hP 0 rfl rfl 10 (by decide) (hts (.fieldLink RX1 33 "PortRulesModel" "version" "[I") (by decide +kernel)) (fun _ h9 => h9) rfl dM_isBroken_172 ?_
              refine lv_iload_n hx hb dM_isBroken_175 rfl (lv_at hl 3 rfl) ?_
              refine rd_iald hx hb hK hP 8 0 rfl rfl (by omega) (by decide) dM_isBroken_176 ?_
              refine lv_aload_n hx hb dM_isBroken_177 rfl (lv_at hl 1 rfl) ?_
              refine va_get (D := G) (ci := 1) (v := .ref (a 10)) (C := RX1) (T := TM) (N := 18) hx hb hts hfi hown hK hP 0 rfl rfl 10 (by decide) (hts (.fieldLink RX1 33 "PortRulesModel" "version" "[I") (by decide +kernel)) (fun _ h9 => h9) rfl dM_isBroken_178 ?_
              refine lv_iload_n hx hb dM_isBroken_181 rfl (lv_at hl 4 rfl) ?_
              refine rd_iald hx hb hK hP 8 0 rfl rfl (by omega) (by decide) dM_isBroken_182 ?_
              refine bi_lt (a := (mf V 10 p0).toInt) (b := (mf V 10 q0).toInt) (tgt := 207) hx hb dM_isBroken_183 (by decide) rfl rfl (fun c183 => ?_) (fun c183 => ?_)
              · refine lv_iconst (v := 1) hx hb dM_isBroken_207 (by decide) ?_
                refine lv_goto (tgt := 212) hx hb dM_isBroken_208 (by decide) ?_
                exact rd_zret hx hb hr rfl (z1_t (by first | omega | (unfold mCB mBo lrm; simp [c168, c183, c6] <;> omega))) dM_isBroken_212 hlocks
              · refine lv_aload_n hx hb dM_isBroken_186 rfl (lv_at hl 1 rfl) ?_
                refine va_get (D := G) (ci := 1) (v := .ref (a 10)) (C := RX1) (T := TM) (N := 18) hx hb hts hfi hown hK hP 0 rfl rfl 10 (by decide) (hts (.fieldLink RX1 33 "PortRulesModel" "version" "[I") (by decide +kernel)) (fun _ h9 => h9) rfl dM_isBroken_187 ?_
                refine lv_iload_n hx hb dM_isBroken_190 rfl (lv_at hl 3 rfl) ?_
                refine rd_iald hx hb hK hP 8 0 rfl rfl (by omega) (by decide) dM_isBroken_191 ?_
                refine lv_bipush (v := 100) hx hb dM_isBroken_192 (by decide) ?_
                refine lv_idiv hx hb dM_isBroken_194 (by decide) ?_
                refine lv_aload_n hx hb dM_isBroken_195 rfl (lv_at hl 1 rfl) ?_
                refine va_get (D := G) (ci := 1) (v := .ref (a 10)) (C := RX1) (T := TM) (N := 18) hx hb hts hfi hown hK hP 0 rfl rfl 10 (by decide) (hts (.fieldLink RX1 33 "PortRulesModel" "version" "[I") (by decide +kernel)) (fun _ h9 => h9) rfl dM_isBroken_196 ?_
                refine lv_iload_n hx hb dM_isBroken_199 rfl (lv_at hl 4 rfl) ?_
                refine rd_iald hx hb hK hP 8 0 rfl rfl (by omega) (by decide) dM_isBroken_200 ?_
                refine lv_bipush (v := 100) hx hb dM_isBroken_201 (by decide) ?_
                refine lv_idiv hx hb dM_isBroken_203 (by decide) ?_
                refine lv_icmp_eq (tgt := 211) hx hb dM_isBroken_204 (by decide) (fun c204 => ?_) (fun c204 => ?_)
                · refine lv_iconst (v := 0) hx hb dM_isBroken_211 (by decide) ?_
                  exact rd_zret hx hb hr rfl (z1_f (by first | omega | (unfold mCB mBo lrm; simp [c168, c183, c204, c6] <;> omega))) dM_isBroken_212 hlocks
                · refine lv_iconst (v := 1) hx hb dM_isBroken_207 (by decide) ?_
                  refine lv_goto (tgt := 212) hx hb dM_isBroken_208 (by decide) ?_
                  exact rd_zret hx hb hr rfl (z1_t (by first | omega | (unfold mCB mBo lrm; simp [c168, c183, c204, c6] <;> omega))) dM_isBroken_212 hlocks
          · skip
            refine lv_tableOut (tgt := 213) hx hb dM_isBroken_26 (by rw [nI_toInt (by omega)]; omega) (by decide) ?_
            refine lv_aload_n hx hb dM_isBroken_213 rfl (lv_at hl 1 rfl) ?_
            refine va_get (D := G) (ci := 1) (v := .ref (a 5)) (C := RX1) (T := TM) (N := 18) hx hb hts hfi hown hK hP 0 rfl rfl 5 (by decide) (hts (.fieldLink RX1 16 "PortRulesModel" "kindOf" "[I") (by decide +kernel)) (fun _ h9 => h9) rfl dM_isBroken_214 ?_
            refine lv_iload_n hx hb dM_isBroken_217 rfl (lv_at hl 3 rfl) ?_
            refine rd_iald hx hb hK hP 3 0 rfl rfl (by omega) (by decide) dM_isBroken_218 ?_
            refine lv_iconst (v := 3) hx hb dM_isBroken_219 (by decide) ?_
            refine lv_icmp_ne (tgt := 240) hx hb dM_isBroken_220 (by decide) (fun c220 => ?_) (fun c220 => ?_)
            · refine lv_iconst (v := 0) hx hb dM_isBroken_240 (by decide) ?_
              exact rd_zret hx hb hr rfl (z1_f (by first | omega | (unfold mCB mBo lrm; simp [c220, c6, r1, r2, r3, r4] <;> omega))) dM_isBroken_241 hlocks
            · refine lv_aload_n hx hb dM_isBroken_223 rfl (lv_at hl 1 rfl) ?_
              refine lv_aload_n hx hb dM_isBroken_224 rfl (lv_at hl 1 rfl) ?_
              refine va_get (D := G) (ci := 1) (v := .ref (a 4)) (C := RX1) (T := TM) (N := 18) hx hb hts hfi hown hK hP 0 rfl rfl 4 (by decide) (hts (.fieldLink RX1 13 "PortRulesModel" "partOf" "[I") (by decide +kernel)) (fun _ h9 => h9) rfl dM_isBroken_225 ?_
              refine lv_iload_n hx hb dM_isBroken_228 rfl (lv_at hl 3 rfl) ?_
              refine rd_iald hx hb hK hP 2 0 rfl rfl (by omega) (by decide) dM_isBroken_229 ?_
              refine rd_callV (As := [.int (mf V 4 p0)]) (rest := []) (b := a 0) (q0 := 0) (ci := 1) ⟨hx, hb, hml, hown, hts⟩ (cm_isManaging l G cA a V (mf V 4 p0)) (cwV 1 hts gM_isBroken_M_isManaging rfl rfl rfl (by decide +kernel) ⟨Nat.le_of_ble_eq_true rfl, Nat.le_of_ble_eq_true rfl⟩) hK hP rfl rfl rfl rfl hl.1 rfl (Nat.le_of_ble_eq_true rfl) dM_isBroken_230 ⟨Nat.zero_le _, Nat.zero_le _⟩ ?_
              refine bb_ne (tgt := 240) hx hb dM_isBroken_233 (by decide) (fun c233 => ?_) (fun c233 => ?_)
              · refine lv_iconst (v := 0) hx hb dM_isBroken_240 (by decide) ?_
                exact rd_zret hx hb hr rfl (z1_f (by first | omega | (unfold mCB mBo lrm; simp [c220, c233, c6, r1, r2, r3, r4] <;> omega))) dM_isBroken_241 hlocks
              · refine lv_iconst (v := 1) hx hb dM_isBroken_236 (by decide) ?_
                refine lv_goto (tgt := 241) hx hb dM_isBroken_237 (by decide) ?_
                exact rd_zret hx hb hr rfl (z1_t (by first | omega | (unfold mCB mBo lrm; simp [c220, c233, c6, r1, r2, r3, r4] <;> omega))) dM_isBroken_241 hlocks
  · refine lv_aload_n hx hb dM_isBroken_9 rfl (lv_at hl 0 rfl) ?_
    refine va_get (D := G) (ci := 1) (v := .ref (a 7)) (C := RX1) (T := TM) (N := 18) hx hb hts hfi hown hK hP 0 rfl rfl 7 (by decide) (hts (.fieldLink RX1 23 "PortRulesModel" "unit" "[I") (by decide +kernel)) (fun _ h9 => h9) rfl dM_isBroken_10 ?_
    refine lv_iload_n hx hb dM_isBroken_13 rfl (lv_at hl 3 rfl) ?_
    refine rd_iald hx hb hK hP 5 0 rfl rfl (by omega) (by decide) dM_isBroken_14 ?_
    refine bz_lt (a := (mf V 7 q0).toInt) (tgt := 22) hx hb dM_isBroken_15 (by decide) rfl (fun c15 => ?_) (fun c15 => ?_)
    · refine lv_iconst (v := 0) hx hb dM_isBroken_22 (by decide) ?_
      refine lv_istore (lv' := [(4, .int 0), (0, .ref (a 0)), (1, .int (nI r0)), (2, .int (nI p0)), (3, .int (nI q0))]) hx hb dM_isBroken_23 hl (by decide) rfl (fun ls hl => ?_)
      refine lv_iload_n hx hb dM_isBroken_25 rfl (lv_at hl 2 rfl) ?_
      by_cases r1 : r0 = 1
      · subst r1
        refine lv_tableIn (off := 30) (tgt := 56) hx hb dM_isBroken_26 (by decide) (by decide) (by decide) (by decide) ?_
        refine lv_aload_n hx hb dM_isBroken_56 rfl (lv_at hl 1 rfl) ?_
        refine va_get (D := G) (ci := 1) (v := .ref (a 7)) (C := RX1) (T := TM) (N := 18) hx hb hts hfi hown hK hP 0 rfl rfl 7 (by decide) (hts (.fieldLink RX1 23 "PortRulesModel" "unit" "[I") (by decide +kernel)) (fun _ h9 => h9) rfl dM_isBroken_57 ?_
        refine lv_iload_n hx hb dM_isBroken_60 rfl (lv_at hl 3 rfl) ?_
        refine rd_iald hx hb hK hP 5 0 rfl rfl (by omega) (by decide) dM_isBroken_61 ?_
        refine bz_lt (a := (mf V 7 p0).toInt) (tgt := 69) hx hb dM_isBroken_62 (by decide) rfl (fun c62 => ?_) (fun c62 => ?_)
        · refine lv_iconst (v := 0) hx hb dM_isBroken_69 (by decide) ?_
          refine lv_aload_n hx hb dM_isBroken_70 rfl (lv_at hl 1 rfl) ?_
          refine va_get (D := G) (ci := 1) (v := .ref (a 7)) (C := RX1) (T := TM) (N := 18) hx hb hts hfi hown hK hP 0 rfl rfl 7 (by decide) (hts (.fieldLink RX1 23 "PortRulesModel" "unit" "[I") (by decide +kernel)) (fun _ h9 => h9) rfl dM_isBroken_71 ?_
          refine lv_iload_n hx hb dM_isBroken_74 rfl (lv_at hl 4 rfl) ?_
          refine rd_iald hx hb hK hP 5 0 rfl rfl (by omega) (by decide) dM_isBroken_75 ?_
          refine bz_lt (a := (mf V 7 q0).toInt) (tgt := 83) hx hb dM_isBroken_76 (by decide) rfl (fun c76 => ?_) (fun c76 => ?_)
          · refine lv_iconst (v := 0) hx hb dM_isBroken_83 (by decide) ?_
            refine lv_icmp_eq (tgt := 91) hx hb dM_isBroken_84 (by decide) (fun _ => ?_) (fun c84 => absurd c84 (by decide))
            refine lv_iconst (v := 0) hx hb dM_isBroken_91 (by decide) ?_
            exact rd_zret hx hb hr rfl (z1_f (by first | omega | (unfold mCB mBo lrm; simp [c15, c6, c62, c76] <;> omega))) dM_isBroken_92 hlocks
          · refine lv_iconst (v := 1) hx hb dM_isBroken_79 (by decide) ?_
            refine lv_goto (tgt := 84) hx hb dM_isBroken_80 (by decide) ?_
            refine lv_icmp_eq (tgt := 91) hx hb dM_isBroken_84 (by decide) (fun c84 => absurd c84 (by decide)) (fun _ => ?_)
            refine lv_iconst (v := 1) hx hb dM_isBroken_87 (by decide) ?_
            refine lv_goto (tgt := 92) hx hb dM_isBroken_88 (by decide) ?_
            exact rd_zret hx hb hr rfl (z1_t (by first | omega | (unfold mCB mBo lrm; simp [c15, c6, c62, c76] <;> omega))) dM_isBroken_92 hlocks
        · refine lv_iconst (v := 1) hx hb dM_isBroken_65 (by decide) ?_
          refine lv_goto (tgt := 70) hx hb dM_isBroken_66 (by decide) ?_
          refine lv_aload_n hx hb dM_isBroken_70 rfl (lv_at hl 1 rfl) ?_
          refine va_get (D := G) (ci := 1) (v := .ref (a 7)) (C := RX1) (T := TM) (N := 18) hx hb hts hfi hown hK hP 0 rfl rfl 7 (by decide) (hts (.fieldLink RX1 23 "PortRulesModel" "unit" "[I") (by decide +kernel)) (fun _ h9 => h9) rfl dM_isBroken_71 ?_
          refine lv_iload_n hx hb dM_isBroken_74 rfl (lv_at hl 4 rfl) ?_
          refine rd_iald hx hb hK hP 5 0 rfl rfl (by omega) (by decide) dM_isBroken_75 ?_
          refine bz_lt (a := (mf V 7 q0).toInt) (tgt := 83) hx hb dM_isBroken_76 (by decide) rfl (fun c76 => ?_) (fun c76 => ?_)
          · refine lv_iconst (v := 0) hx hb dM_isBroken_83 (by decide) ?_
            refine lv_icmp_eq (tgt := 91) hx hb dM_isBroken_84 (by decide) (fun c84 => absurd c84 (by decide)) (fun _ => ?_)
            refine lv_iconst (v := 1) hx hb dM_isBroken_87 (by decide) ?_
            refine lv_goto (tgt := 92) hx hb dM_isBroken_88 (by decide) ?_
            exact rd_zret hx hb hr rfl (z1_t (by first | omega | (unfold mCB mBo lrm; simp [c15, c6, c62, c76] <;> omega))) dM_isBroken_92 hlocks
          · refine lv_iconst (v := 1) hx hb dM_isBroken_79 (by decide) ?_
            refine lv_goto (tgt := 84) hx hb dM_isBroken_80 (by decide) ?_
            refine lv_icmp_eq (tgt := 91) hx hb dM_isBroken_84 (by decide) (fun _ => ?_) (fun c84 => absurd c84 (by decide))
            refine lv_iconst (v := 0) hx hb dM_isBroken_91 (by decide) ?_
            exact rd_zret hx hb hr rfl (z1_f (by first | omega | (unfold mCB mBo lrm; simp [c15, c6, c62, c76] <;> omega))) dM_isBroken_92 hlocks
      · skip
        by_cases r2 : r0 = 2
        · subst r2
          refine lv_tableIn (off := 67) (tgt := 93) hx hb dM_isBroken_26 (by decide) (by decide) (by decide) (by decide) ?_
          refine lv_iload hx hb dM_isBroken_93 (lv_at hl 0 rfl) ?_
          refine lv_if_eq (tgt := 117) hx hb dM_isBroken_95 (by decide) (fun _ => ?_) (fun c95 => absurd c95 (by decide))
          refine lv_iconst (v := 0) hx hb dM_isBroken_117 (by decide) ?_
          exact rd_zret hx hb hr rfl (z1_f (by first | omega | (unfold mCB mBo lrm; simp [c15, c6] <;> omega))) dM_isBroken_118 hlocks
        · skip
          by_cases r3 : r0 = 3
          · subst r3
            refine lv_tableIn (off := 93) (tgt := 119) hx hb dM_isBroken_26 (by decide) (by decide) (by decide) (by decide) ?_
            refine lv_iload hx hb dM_isBroken_119 (lv_at hl 0 rfl) ?_
            refine lv_if_eq (tgt := 160) hx hb dM_isBroken_121 (by decide) (fun _ => ?_) (fun c121 => absurd c121 (by decide))
            refine lv_iconst (v := 0) hx hb dM_isBroken_160 (by decide) ?_
            exact rd_zret hx hb hr rfl (z1_f (by first | omega | (unfold mCB mBo lrm; simp [c15, c6] <;> omega))) dM_isBroken_161 hlocks
          · skip
            by_cases r4 : r0 = 4
            · subst r4
              refine lv_tableIn (off := 136) (tgt := 162) hx hb dM_isBroken_26 (by decide) (by decide) (by decide) (by decide) ?_
              refine lv_aload_n hx hb dM_isBroken_162 rfl (lv_at hl 1 rfl) ?_
              refine va_get (D := G) (ci := 1) (v := .ref (a 10)) (C := RX1) (T := TM) (N := 18) hx hb hts hfi hown hK hP 0 rfl rfl 10 (by decide) (hts (.fieldLink RX1 33 "PortRulesModel" "version" "[I") (by decide +kernel)) (fun _ h9 => h9) rfl dM_isBroken_163 ?_
              refine lv_iload_n hx hb dM_isBroken_166 rfl (lv_at hl 4 rfl) ?_
              refine rd_iald hx hb hK hP 8 0 rfl rfl (by omega) (by decide) dM_isBroken_167 ?_
              refine bz_lt (a := (mf V 10 q0).toInt) (tgt := 211) hx hb dM_isBroken_168 (by decide) rfl (fun c168 => ?_) (fun c168 => ?_)
              · refine lv_iconst (v := 0) hx hb dM_isBroken_211 (by decide) ?_
                exact rd_zret hx hb hr rfl (z1_f (by first | omega | (unfold mCB mBo lrm; simp [c15, c168, c6] <;> omega))) dM_isBroken_212 hlocks
              · refine lv_aload_n hx hb dM_isBroken_171 rfl (lv_at hl 1 rfl) ?_
                refine va_get (D := G) (ci := 1) (v := .ref (a 10)) (C := RX1) (T := TM) (N := 18) hx hb hts hfi hown hK hP 0 rfl rfl 10 (by decide) (hts (.fieldLink RX1 33 "PortRulesModel" "version" "[I") (by decide +kernel)) (fun _ h9 => h9) rfl dM_isBroken_172 ?_
                refine lv_iload_n hx hb dM_isBroken_175 rfl (lv_at hl 3 rfl) ?_
                refine rd_iald hx hb hK hP 8 0 rfl rfl (by omega) (by decide) dM_isBroken_176 ?_
                refine lv_aload_n hx hb dM_isBroken_177 rfl (lv_at hl 1 rfl) ?_
                refine va_get (D := G) (ci := 1) (v := .ref (a 10)) (C := RX1) (T := TM) (N := 18) hx hb hts hfi hown hK hP 0 rfl rfl 10 (by decide) (hts (.fieldLink RX1 33 "PortRulesModel" "version" "[I") (by decide +kernel)) (fun _ h9 => h9) rfl dM_isBroken_178 ?_
                refine lv_iload_n hx hb dM_isBroken_181 rfl (lv_at hl 4 rfl) ?_
                refine rd_iald hx hb hK hP 8 0 rfl rfl (by omega) (by decide) dM_isBroken_182 ?_
                refine bi_lt (a := (mf V 10 p0).toInt) (b := (mf V 10 q0).toInt) (tgt := 207) hx hb dM_isBroken_183 (by decide) rfl rfl (fun c183 => ?_) (fun c183 => ?_)
                · refine lv_iconst (v := 1) hx hb dM_isBroken_207 (by decide) ?_
                  refine lv_goto (tgt := 212) hx hb dM_isBroken_208 (by decide) ?_
                  exact rd_zret hx hb hr rfl (z1_t (by first | omega | (unfold mCB mBo lrm; simp [c15, c168, c183, c6] <;> omega))) dM_isBroken_212 hlocks
                · refine lv_aload_n hx hb dM_isBroken_186 rfl (lv_at hl 1 rfl) ?_
                  refine va_get (D := G) (ci := 1) (v := .ref (a 10)) (C := RX1) (T := TM) (N := 18) hx hb hts hfi hown hK hP 0 rfl rfl 10 (by decide) (hts (.fieldLink RX1 33 "PortRulesModel" "version" "[I") (by decide +kernel)) (fun _ h9 => h9) rfl dM_isBroken_187 ?_
                  refine lv_iload_n hx hb dM_isBroken_190 rfl (lv_at hl 3 rfl) ?_
                  refine rd_iald hx hb hK hP 8 0 rfl rfl (by omega) (by decide) dM_isBroken_191 ?_
                  refine lv_bipush (v := 100) hx hb dM_isBroken_192 (by decide) ?_
                  refine lv_idiv hx hb dM_isBroken_194 (by decide) ?_
                  refine lv_aload_n hx hb dM_isBroken_195 rfl (lv_at hl 1 rfl) ?_
                  refine va_get (D := G) (ci := 1) (v := .ref (a 10)) (C := RX1) (T := TM) (N := 18) hx hb hts hfi hown hK hP 0 rfl rfl 10 (by decide) (hts (.fieldLink RX1 33 "PortRulesModel" "version" "[I") (by decide +kernel)) (fun _ h9 => h9) rfl dM_isBroken_196 ?_
                  refine lv_iload_n hx hb dM_isBroken_199 rfl (lv_at hl 4 rfl) ?_
                  refine rd_iald hx hb hK hP 8 0 rfl rfl (by omega) (by decide) dM_isBroken_200 ?_
                  refine lv_bipush (v := 100) hx hb dM_isBroken_201 (by decide) ?_
                  refine lv_idiv hx hb dM_isBroken_203 (by decide) ?_
                  refine lv_icmp_eq (tgt := 211) hx hb dM_isBroken_204 (by decide) (fun c204 => ?_) (fun c204 => ?_)
                  · refine lv_iconst (v := 0) hx hb dM_isBroken_211 (by decide) ?_
                    exact rd_zret hx hb hr rfl (z1_f (by first | omega | (unfold mCB mBo lrm; simp [c15, c168, c183, c204, c6] <;> omega))) dM_isBroken_212 hlocks
                  · refine lv_iconst (v := 1) hx hb dM_isBroken_207 (by decide) ?_
                    refine lv_goto (tgt := 212) hx hb dM_isBroken_208 (by decide) ?_
                    exact rd_zret hx hb hr rfl (z1_t (by first | omega | (unfold mCB mBo lrm; simp [c15, c168, c183, c204, c6] <;> omega))) dM_isBroken_212 hlocks
            · skip
              refine lv_tableOut (tgt := 213) hx hb dM_isBroken_26 (by rw [nI_toInt (by omega)]; omega) (by decide) ?_
              refine lv_aload_n hx hb dM_isBroken_213 rfl (lv_at hl 1 rfl) ?_
              refine va_get (D := G) (ci := 1) (v := .ref (a 5)) (C := RX1) (T := TM) (N := 18) hx hb hts hfi hown hK hP 0 rfl rfl 5 (by decide) (hts (.fieldLink RX1 16 "PortRulesModel" "kindOf" "[I") (by decide +kernel)) (fun _ h9 => h9) rfl dM_isBroken_214 ?_
              refine lv_iload_n hx hb dM_isBroken_217 rfl (lv_at hl 3 rfl) ?_
              refine rd_iald hx hb hK hP 3 0 rfl rfl (by omega) (by decide) dM_isBroken_218 ?_
              refine lv_iconst (v := 3) hx hb dM_isBroken_219 (by decide) ?_
              refine lv_icmp_ne (tgt := 240) hx hb dM_isBroken_220 (by decide) (fun c220 => ?_) (fun c220 => ?_)
              · refine lv_iconst (v := 0) hx hb dM_isBroken_240 (by decide) ?_
                exact rd_zret hx hb hr rfl (z1_f (by first | omega | (unfold mCB mBo lrm; simp [c15, c220, c6, r1, r2, r3, r4] <;> omega))) dM_isBroken_241 hlocks
              · refine lv_aload_n hx hb dM_isBroken_223 rfl (lv_at hl 1 rfl) ?_
                refine lv_aload_n hx hb dM_isBroken_224 rfl (lv_at hl 1 rfl) ?_
                refine va_get (D := G) (ci := 1) (v := .ref (a 4)) (C := RX1) (T := TM) (N := 18) hx hb hts hfi hown hK hP 0 rfl rfl 4 (by decide) (hts (.fieldLink RX1 13 "PortRulesModel" "partOf" "[I") (by decide +kernel)) (fun _ h9 => h9) rfl dM_isBroken_225 ?_
                refine lv_iload_n hx hb dM_isBroken_228 rfl (lv_at hl 3 rfl) ?_
                refine rd_iald hx hb hK hP 2 0 rfl rfl (by omega) (by decide) dM_isBroken_229 ?_
                refine rd_callV (As := [.int (mf V 4 p0)]) (rest := []) (b := a 0) (q0 := 0) (ci := 1) ⟨hx, hb, hml, hown, hts⟩ (cm_isManaging l G cA a V (mf V 4 p0)) (cwV 1 hts gM_isBroken_M_isManaging rfl rfl rfl (by decide +kernel) ⟨Nat.le_of_ble_eq_true rfl, Nat.le_of_ble_eq_true rfl⟩) hK hP rfl rfl rfl rfl hl.1 rfl (Nat.le_of_ble_eq_true rfl) dM_isBroken_230 ⟨Nat.zero_le _, Nat.zero_le _⟩ ?_
                refine bb_ne (tgt := 240) hx hb dM_isBroken_233 (by decide) (fun c233 => ?_) (fun c233 => ?_)
                · refine lv_iconst (v := 0) hx hb dM_isBroken_240 (by decide) ?_
                  exact rd_zret hx hb hr rfl (z1_f (by first | omega | (unfold mCB mBo lrm; simp [c15, c220, c233, c6, r1, r2, r3, r4] <;> omega))) dM_isBroken_241 hlocks
                · refine lv_iconst (v := 1) hx hb dM_isBroken_236 (by decide) ?_
                  refine lv_goto (tgt := 241) hx hb dM_isBroken_237 (by decide) ?_
                  exact rd_zret hx hb hr rfl (z1_t (by first | omega | (unfold mCB mBo lrm; simp [c15, c220, c233, c6, r1, r2, r3, r4] <;> omega))) dM_isBroken_241 hlocks
    · refine lv_iconst (v := 1) hx hb dM_isBroken_18 (by decide) ?_
      refine lv_goto (tgt := 23) hx hb dM_isBroken_19 (by decide) ?_
      refine lv_istore (lv' := [(4, .int 1), (0, .ref (a 0)), (1, .int (nI r0)), (2, .int (nI p0)), (3, .int (nI q0))]) hx hb dM_isBroken_23 hl (by decide) rfl (fun ls hl => ?_)
      refine lv_iload_n hx hb dM_isBroken_25 rfl (lv_at hl 2 rfl) ?_
      by_cases r1 : r0 = 1
      · subst r1
        refine lv_tableIn (off := 30) (tgt := 56) hx hb dM_isBroken_26 (by decide) (by decide) (by decide) (by decide) ?_
        refine lv_aload_n hx hb dM_isBroken_56 rfl (lv_at hl 1 rfl) ?_
        refine va_get (D := G) (ci := 1) (v := .ref (a 7)) (C := RX1) (T := TM) (N := 18) hx hb hts hfi hown hK hP 0 rfl rfl 7 (by decide) (hts (.fieldLink RX1 23 "PortRulesModel" "unit" "[I") (by decide +kernel)) (fun _ h9 => h9) rfl dM_isBroken_57 ?_
        refine lv_iload_n hx hb dM_isBroken_60 rfl (lv_at hl 3 rfl) ?_
        refine rd_iald hx hb hK hP 5 0 rfl rfl (by omega) (by decide) dM_isBroken_61 ?_
        refine bz_lt (a := (mf V 7 p0).toInt) (tgt := 69) hx hb dM_isBroken_62 (by decide) rfl (fun c62 => ?_) (fun c62 => ?_)
        · refine lv_iconst (v := 0) hx hb dM_isBroken_69 (by decide) ?_
          refine lv_aload_n hx hb dM_isBroken_70 rfl (lv_at hl 1 rfl) ?_
          refine va_get (D := G) (ci := 1) (v := .ref (a 7)) (C := RX1) (T := TM) (N := 18) hx hb hts hfi hown hK hP 0 rfl rfl 7 (by decide) (hts (.fieldLink RX1 23 "PortRulesModel" "unit" "[I") (by decide +kernel)) (fun _ h9 => h9) rfl dM_isBroken_71 ?_
          refine lv_iload_n hx hb dM_isBroken_74 rfl (lv_at hl 4 rfl) ?_
          refine rd_iald hx hb hK hP 5 0 rfl rfl (by omega) (by decide) dM_isBroken_75 ?_
          refine bz_lt (a := (mf V 7 q0).toInt) (tgt := 83) hx hb dM_isBroken_76 (by decide) rfl (fun c76 => ?_) (fun c76 => ?_)
          · refine lv_iconst (v := 0) hx hb dM_isBroken_83 (by decide) ?_
            refine lv_icmp_eq (tgt := 91) hx hb dM_isBroken_84 (by decide) (fun _ => ?_) (fun c84 => absurd c84 (by decide))
            refine lv_iconst (v := 0) hx hb dM_isBroken_91 (by decide) ?_
            exact rd_zret hx hb hr rfl (z1_f (by first | omega | (unfold mCB mBo lrm; simp [c15, c6, c62, c76] <;> omega))) dM_isBroken_92 hlocks
          · refine lv_iconst (v := 1) hx hb dM_isBroken_79 (by decide) ?_
            refine lv_goto (tgt := 84) hx hb dM_isBroken_80 (by decide) ?_
            refine lv_icmp_eq (tgt := 91) hx hb dM_isBroken_84 (by decide) (fun c84 => absurd c84 (by decide)) (fun _ => ?_)
            refine lv_iconst (v := 1) hx hb dM_isBroken_87 (by decide) ?_
            refine lv_goto (tgt := 92) hx hb dM_isBroken_88 (by decide) ?_
            exact rd_zret hx hb hr rfl (z1_t (by first | omega | (unfold mCB mBo lrm; simp [c15, c6, c62, c76] <;> omega))) dM_isBroken_92 hlocks
        · refine lv_iconst (v := 1) hx hb dM_isBroken_65 (by decide) ?_
          refine lv_goto (tgt := 70) hx hb dM_isBroken_66 (by decide) ?_
          refine lv_aload_n hx hb dM_isBroken_70 rfl (lv_at hl 1 rfl) ?_
          refine va_get (D := G) (ci := 1) (v := .ref (a 7)) (C := RX1) (T := TM) (N := 18) hx hb hts hfi hown hK hP 0 rfl rfl 7 (by decide) (hts (.fieldLink RX1 23 "PortRulesModel" "unit" "[I") (by decide +kernel)) (fun _ h9 => h9) rfl dM_isBroken_71 ?_
          refine lv_iload_n hx hb dM_isBroken_74 rfl (lv_at hl 4 rfl) ?_
          refine rd_iald hx hb hK hP 5 0 rfl rfl (by omega) (by decide) dM_isBroken_75 ?_
          refine bz_lt (a := (mf V 7 q0).toInt) (tgt := 83) hx hb dM_isBroken_76 (by decide) rfl (fun c76 => ?_) (fun c76 => ?_)
          · refine lv_iconst (v := 0) hx hb dM_isBroken_83 (by decide) ?_
            refine lv_icmp_eq (tgt := 91) hx hb dM_isBroken_84 (by decide) (fun c84 => absurd c84 (by decide)) (fun _ => ?_)
            refine lv_iconst (v := 1) hx hb dM_isBroken_87 (by decide) ?_
            refine lv_goto (tgt := 92) hx hb dM_isBroken_88 (by decide) ?_
            exact rd_zret hx hb hr rfl (z1_t (by first | omega | (unfold mCB mBo lrm; simp [c15, c6, c62, c76] <;> omega))) dM_isBroken_92 hlocks
          · refine lv_iconst (v := 1) hx hb dM_isBroken_79 (by decide) ?_
            refine lv_goto (tgt := 84) hx hb dM_isBroken_80 (by decide) ?_
            refine lv_icmp_eq (tgt := 91) hx hb dM_isBroken_84 (by decide) (fun _ => ?_) (fun c84 => absurd c84 (by decide))
            refine lv_iconst (v := 0) hx hb dM_isBroken_91 (by decide) ?_
            exact rd_zret hx hb hr rfl (z1_f (by first | omega | (unfold mCB mBo lrm; simp [c15, c6, c62, c76] <;> omega))) dM_isBroken_92 hlocks
      · skip
        by_cases r2 : r0 = 2
        · subst r2
          refine lv_tableIn (off := 67) (tgt := 93) hx hb dM_isBroken_26 (by decide) (by decide) (by decide) (by decide) ?_
          refine lv_iload hx hb dM_isBroken_93 (lv_at hl 0 rfl) ?_
          refine lv_if_eq (tgt := 117) hx hb dM_isBroken_95 (by decide) (fun c95 => absurd c95 (by decide)) (fun _ => ?_)
          refine lv_aload_n hx hb dM_isBroken_98 rfl (lv_at hl 1 rfl) ?_
          refine va_get (D := G) (ci := 1) (v := .ref (a 7)) (C := RX1) (T := TM) (N := 18) hx hb hts hfi hown hK hP 0 rfl rfl 7 (by decide) (hts (.fieldLink RX1 23 "PortRulesModel" "unit" "[I") (by decide +kernel)) (fun _ h9 => h9) rfl dM_isBroken_99 ?_
          refine lv_iload_n hx hb dM_isBroken_102 rfl (lv_at hl 3 rfl) ?_
          refine rd_iald hx hb hK hP 5 0 rfl rfl (by omega) (by decide) dM_isBroken_103 ?_
          refine lv_aload_n hx hb dM_isBroken_104 rfl (lv_at hl 1 rfl) ?_
          refine va_get (D := G) (ci := 1) (v := .ref (a 7)) (C := RX1) (T := TM) (N := 18) hx hb hts hfi hown hK hP 0 rfl rfl 7 (by decide) (hts (.fieldLink RX1 23 "PortRulesModel" "unit" "[I") (by decide +kernel)) (fun _ h9 => h9) rfl dM_isBroken_105 ?_
          refine lv_iload_n hx hb dM_isBroken_108 rfl (lv_at hl 4 rfl) ?_
          refine rd_iald hx hb hK hP 5 0 rfl rfl (by omega) (by decide) dM_isBroken_109 ?_
          refine lv_icmp_eq (tgt := 117) hx hb dM_isBroken_110 (by decide) (fun c110 => ?_) (fun c110 => ?_)
          · refine lv_iconst (v := 0) hx hb dM_isBroken_117 (by decide) ?_
            exact rd_zret hx hb hr rfl (z1_f (by first | omega | (unfold mCB mBo lrm; simp [c110, c15, c6] <;> omega))) dM_isBroken_118 hlocks
          · refine lv_iconst (v := 1) hx hb dM_isBroken_113 (by decide) ?_
            refine lv_goto (tgt := 118) hx hb dM_isBroken_114 (by decide) ?_
            exact rd_zret hx hb hr rfl (z1_t (by first | omega | (unfold mCB mBo lrm; simp [c110, c15, c6] <;> omega))) dM_isBroken_118 hlocks
        · skip
          by_cases r3 : r0 = 3
          · subst r3
            refine lv_tableIn (off := 93) (tgt := 119) hx hb dM_isBroken_26 (by decide) (by decide) (by decide) (by decide) ?_
            refine lv_iload hx hb dM_isBroken_119 (lv_at hl 0 rfl) ?_
            refine lv_if_eq (tgt := 160) hx hb dM_isBroken_121 (by decide) (fun c121 => absurd c121 (by decide)) (fun _ => ?_)
            refine lv_aload_n hx hb dM_isBroken_124 rfl (lv_at hl 1 rfl) ?_
            refine va_get (D := G) (ci := 1) (v := .ref (a 8)) (C := RX1) (T := TM) (N := 18) hx hb hts hfi hown hK hP 0 rfl rfl 8 (by decide) (hts (.fieldLink RX1 26 "PortRulesModel" "up" "[J") (by decide +kernel)) (fun _ h9 => h9) rfl dM_isBroken_125 ?_
            refine lv_iload_n hx hb dM_isBroken_128 rfl (lv_at hl 3 rfl) ?_
            refine rd_lald hx hb hK hP 6 2 rfl rfl (by omega) (by decide) dM_isBroken_129 ?_
            refine lv_aload_n hx hb dM_isBroken_130 rfl (lv_at hl 1 rfl) ?_
            refine va_get (D := G) (ci := 1) (v := .ref (a 9)) (C := RX1) (T := TM) (N := 18) hx hb hts hfi hown hK hP 0 rfl rfl 9 (by decide) (hts (.fieldLink RX1 30 "PortRulesModel" "down" "[J") (by decide +kernel)) (fun _ h9 => h9) rfl dM_isBroken_131 ?_
            refine lv_iload_n hx hb dM_isBroken_134 rfl (lv_at hl 4 rfl) ?_
            refine rd_lald hx hb hK hP 7 2 rfl rfl (by omega) (by decide) dM_isBroken_135 ?_
            refine lv_lmul hx hb dM_isBroken_136 ?_
            refine lv_aload_n hx hb dM_isBroken_137 rfl (lv_at hl 1 rfl) ?_
            refine va_get (D := G) (ci := 1) (v := .ref (a 9)) (C := RX1) (T := TM) (N := 18) hx hb hts hfi hown hK hP 0 rfl rfl 9 (by decide) (hts (.fieldLink RX1 30 "PortRulesModel" "down" "[J") (by decide +kernel)) (fun _ h9 => h9) rfl dM_isBroken_138 ?_
            refine lv_iload_n hx hb dM_isBroken_141 rfl (lv_at hl 3 rfl) ?_
            refine rd_lald hx hb hK hP 7 2 rfl rfl (by omega) (by decide) dM_isBroken_142 ?_
            refine lv_aload_n hx hb dM_isBroken_143 rfl (lv_at hl 1 rfl) ?_
            refine va_get (D := G) (ci := 1) (v := .ref (a 8)) (C := RX1) (T := TM) (N := 18) hx hb hts hfi hown hK hP 0 rfl rfl 8 (by decide) (hts (.fieldLink RX1 26 "PortRulesModel" "up" "[J") (by decide +kernel)) (fun _ h9 => h9) rfl dM_isBroken_144 ?_
            refine lv_iload_n hx hb dM_isBroken_147 rfl (lv_at hl 4 rfl) ?_
            refine rd_lald hx hb hK hP 6 2 rfl rfl (by omega) (by decide) dM_isBroken_148 ?_
            refine lv_lmul hx hb dM_isBroken_149 ?_
            refine lv_lrem hx hb dM_isBroken_150 (hdv c6 c15) ?_
            refine lv_lconst (v := 0) hx hb dM_isBroken_151 (by decide) ?_
            refine bl_eq (tgt := 160) hx hb dM_isBroken_152 dM_isBroken_153 (by decide) (fun c153 => ?_) (fun c153 => ?_)
            · refine lv_iconst (v := 0) hx hb dM_isBroken_160 (by decide) ?_
              exact rd_zret hx hb hr rfl (z1_f (by first | omega | (unfold mCB mBo lrm; simp [c15, c153, c6] <;> omega))) dM_isBroken_161 hlocks
            · refine lv_iconst (v := 1) hx hb dM_isBroken_156 (by decide) ?_
              refine lv_goto (tgt := 161) hx hb dM_isBroken_157 (by decide) ?_
              exact rd_zret hx hb hr rfl (z1_t (by first | omega | (unfold mCB mBo lrm; simp [c15, c153, c6] <;> omega))) dM_isBroken_161 hlocks
          · skip
            by_cases r4 : r0 = 4
            · subst r4
              refine lv_tableIn (off := 136) (tgt := 162) hx hb dM_isBroken_26 (by decide) (by decide) (by decide) (by decide) ?_
              refine lv_aload_n hx hb dM_isBroken_162 rfl (lv_at hl 1 rfl) ?_
              refine va_get (D := G) (ci := 1) (v := .ref (a 10)) (C := RX1) (T := TM) (N := 18) hx hb hts hfi hown hK hP 0 rfl rfl 10 (by decide) (hts (.fieldLink RX1 33 "PortRulesModel" "version" "[I") (by decide +kernel)) (fun _ h9 => h9) rfl dM_isBroken_163 ?_
              refine lv_iload_n hx hb dM_isBroken_166 rfl (lv_at hl 4 rfl) ?_
              refine rd_iald hx hb hK hP 8 0 rfl rfl (by omega) (by decide) dM_isBroken_167 ?_
              refine bz_lt (a := (mf V 10 q0).toInt) (tgt := 211) hx hb dM_isBroken_168 (by decide) rfl (fun c168 => ?_) (fun c168 => ?_)
              · refine lv_iconst (v := 0) hx hb dM_isBroken_211 (by decide) ?_
                exact rd_zret hx hb hr rfl (z1_f (by first | omega | (unfold mCB mBo lrm; simp [c15, c168, c6] <;> omega))) dM_isBroken_212 hlocks
              · refine lv_aload_n hx hb dM_isBroken_171 rfl (lv_at hl 1 rfl) ?_
                refine va_get (D := G) (ci := 1) (v := .ref (a 10)) (C := RX1) (T := TM) (N := 18) hx hb hts hfi hown hK hP 0 rfl rfl 10 (by decide) (hts (.fieldLink RX1 33 "PortRulesModel" "version" "[I") (by decide +kernel)) (fun _ h9 => h9) rfl dM_isBroken_172 ?_
                refine lv_iload_n hx hb dM_isBroken_175 rfl (lv_at hl 3 rfl) ?_
                refine rd_iald hx hb hK hP 8 0 rfl rfl (by omega) (by decide) dM_isBroken_176 ?_
                refine lv_aload_n hx hb dM_isBroken_177 rfl (lv_at hl 1 rfl) ?_
                refine va_get (D := G) (ci := 1) (v := .ref (a 10)) (C := RX1) (T := TM) (N := 18) hx hb hts hfi hown hK hP 0 rfl rfl 10 (by decide) (hts (.fieldLink RX1 33 "PortRulesModel" "version" "[I") (by decide +kernel)) (fun _ h9 => h9) rfl dM_isBroken_178 ?_
                refine lv_iload_n hx hb dM_isBroken_181 rfl (lv_at hl 4 rfl) ?_
                refine rd_iald hx hb hK hP 8 0 rfl rfl (by omega) (by decide) dM_isBroken_182 ?_
                refine bi_lt (a := (mf V 10 p0).toInt) (b := (mf V 10 q0).toInt) (tgt := 207) hx hb dM_isBroken_183 (by decide) rfl rfl (fun c183 => ?_) (fun c183 => ?_)
                · refine lv_iconst (v := 1) hx hb dM_isBroken_207 (by decide) ?_
                  refine lv_goto (tgt := 212) hx hb dM_isBroken_208 (by decide) ?_
                  exact rd_zret hx hb hr rfl (z1_t (by first | omega | (unfold mCB mBo lrm; simp [c15, c168, c183, c6] <;> omega))) dM_isBroken_212 hlocks
                · refine lv_aload_n hx hb dM_isBroken_186 rfl (lv_at hl 1 rfl) ?_
                  refine va_get (D := G) (ci := 1) (v := .ref (a 10)) (C := RX1) (T := TM) (N := 18) hx hb hts hfi hown hK hP 0 rfl rfl 10 (by decide) (hts (.fieldLink RX1 33 "PortRulesModel" "version" "[I") (by decide +kernel)) (fun _ h9 => h9) rfl dM_isBroken_187 ?_
                  refine lv_iload_n hx hb dM_isBroken_190 rfl (lv_at hl 3 rfl) ?_
                  refine rd_iald hx hb hK hP 8 0 rfl rfl (by omega) (by decide) dM_isBroken_191 ?_
                  refine lv_bipush (v := 100) hx hb dM_isBroken_192 (by decide) ?_
                  refine lv_idiv hx hb dM_isBroken_194 (by decide) ?_
                  refine lv_aload_n hx hb dM_isBroken_195 rfl (lv_at hl 1 rfl) ?_
                  refine va_get (D := G) (ci := 1) (v := .ref (a 10)) (C := RX1) (T := TM) (N := 18) hx hb hts hfi hown hK hP 0 rfl rfl 10 (by decide) (hts (.fieldLink RX1 33 "PortRulesModel" "version" "[I") (by decide +kernel)) (fun _ h9 => h9) rfl dM_isBroken_196 ?_
                  refine lv_iload_n hx hb dM_isBroken_199 rfl (lv_at hl 4 rfl) ?_
                  refine rd_iald hx hb hK hP 8 0 rfl rfl (by omega) (by decide) dM_isBroken_200 ?_
                  refine lv_bipush (v := 100) hx hb dM_isBroken_201 (by decide) ?_
                  refine lv_idiv hx hb dM_isBroken_203 (by decide) ?_
                  refine lv_icmp_eq (tgt := 211) hx hb dM_isBroken_204 (by decide) (fun c204 => ?_) (fun c204 => ?_)
                  · refine lv_iconst (v := 0) hx hb dM_isBroken_211 (by decide) ?_
                    exact rd_zret hx hb hr rfl (z1_f (by first | omega | (unfold mCB mBo lrm; simp [c15, c168, c183, c204, c6] <;> omega))) dM_isBroken_212 hlocks
                  · refine lv_iconst (v := 1) hx hb dM_isBroken_207 (by decide) ?_
                    refine lv_goto (tgt := 212) hx hb dM_isBroken_208 (by decide) ?_
                    exact rd_zret hx hb hr rfl (z1_t (by first | omega | (unfold mCB mBo lrm; simp [c15, c168, c183, c204, c6] <;> omega))) dM_isBroken_212 hlocks
            · skip
              refine lv_tableOut (tgt := 213) hx hb dM_isBroken_26 (by rw [nI_toInt (by omega)]; omega) (by decide) ?_
              refine lv_aload_n hx hb dM_isBroken_213 rfl (lv_at hl 1 rfl) ?_
              refine va_get (D := G) (ci := 1) (v := .ref (a 5)) (C := RX1) (T := TM) (N := 18) hx hb hts hfi hown hK hP 0 rfl rfl 5 (by decide) (hts (.fieldLink RX1 16 "PortRulesModel" "kindOf" "[I") (by decide +kernel)) (fun _ h9 => h9) rfl dM_isBroken_214 ?_
              refine lv_iload_n hx hb dM_isBroken_217 rfl (lv_at hl 3 rfl) ?_
              refine rd_iald hx hb hK hP 3 0 rfl rfl (by omega) (by decide) dM_isBroken_218 ?_
              refine lv_iconst (v := 3) hx hb dM_isBroken_219 (by decide) ?_
              refine lv_icmp_ne (tgt := 240) hx hb dM_isBroken_220 (by decide) (fun c220 => ?_) (fun c220 => ?_)
              · refine lv_iconst (v := 0) hx hb dM_isBroken_240 (by decide) ?_
                exact rd_zret hx hb hr rfl (z1_f (by first | omega | (unfold mCB mBo lrm; simp [c15, c220, c6, r1, r2, r3, r4] <;> omega))) dM_isBroken_241 hlocks
              · refine lv_aload_n hx hb dM_isBroken_223 rfl (lv_at hl 1 rfl) ?_
                refine lv_aload_n hx hb dM_isBroken_224 rfl (lv_at hl 1 rfl) ?_
                refine va_get (D := G) (ci := 1) (v := .ref (a 4)) (C := RX1) (T := TM) (N := 18) hx hb hts hfi hown hK hP 0 rfl rfl 4 (by decide) (hts (.fieldLink RX1 13 "PortRulesModel" "partOf" "[I") (by decide +kernel)) (fun _ h9 => h9) rfl dM_isBroken_225 ?_
                refine lv_iload_n hx hb dM_isBroken_228 rfl (lv_at hl 3 rfl) ?_
                refine rd_iald hx hb hK hP 2 0 rfl rfl (by omega) (by decide) dM_isBroken_229 ?_
                refine rd_callV (As := [.int (mf V 4 p0)]) (rest := []) (b := a 0) (q0 := 0) (ci := 1) ⟨hx, hb, hml, hown, hts⟩ (cm_isManaging l G cA a V (mf V 4 p0)) (cwV 1 hts gM_isBroken_M_isManaging rfl rfl rfl (by decide +kernel) ⟨Nat.le_of_ble_eq_true rfl, Nat.le_of_ble_eq_true rfl⟩) hK hP rfl rfl rfl rfl hl.1 rfl (Nat.le_of_ble_eq_true rfl) dM_isBroken_230 ⟨Nat.zero_le _, Nat.zero_le _⟩ ?_
                refine bb_ne (tgt := 240) hx hb dM_isBroken_233 (by decide) (fun c233 => ?_) (fun c233 => ?_)
                · refine lv_iconst (v := 0) hx hb dM_isBroken_240 (by decide) ?_
                  exact rd_zret hx hb hr rfl (z1_f (by first | omega | (unfold mCB mBo lrm; simp [c15, c220, c233, c6, r1, r2, r3, r4] <;> omega))) dM_isBroken_241 hlocks
                · refine lv_iconst (v := 1) hx hb dM_isBroken_236 (by decide) ?_
                  refine lv_goto (tgt := 241) hx hb dM_isBroken_237 (by decide) ?_
                  exact rd_zret hx hb hr rfl (z1_t (by first | omega | (unfold mCB mBo lrm; simp [c15, c220, c233, c6, r1, r2, r3, r4] <;> omega))) dM_isBroken_241 hlocks
set_option maxHeartbeats 4000000 in
set_option maxRecDepth 100000 in
theorem cm_knowK (l : Launch) (G : va_G) (cA : Nat → ClassId) (a : Nat → Nat) (V : MV)  (hk0 : ¬ mkn V = 0) : Met l yM_know wsM_know { frames := 0, cells := 0, slots := 0, locals := 0 } (rd_Pc G vwC2 (tT cA) (mW cA a V) [.ref (a 0)]) rd_QN 0 0 (fun _ => False) := by
  refine Met.ofW (cc := cM_know) (maxL := 4) (ret := none) (by decide) rfl ?_
  intro p e s m args below meth c s₁ B hml hv
  obtain ⟨rfl, hP, hK⟩ := hv
  have hx := B.exec
  have hb := B.bytes
  have hr := B.returns
  have hts := atoms_spec (ws := wsM_know) B.pre
  have hown : s.vm.findClass RX1 = some m.cls := findClass_of_methodNamed B.named
  have hlocks := B.notSynchronized
  have hfi : ∀ w ∈ u_ws RX1 TM 18, w ∈ wsM_know := fun w h => List.mem_cons_of_mem _ (wMA_f w h)
  have hl := lv_entry ([.ref (a 0)]) (n := 4) (Nat.le_of_ble_eq_true rfl)
  rw [lg_entry_eq]
  generalize (lg_sl ([.ref (a 0)]) ++ List.replicate (4 - (lg_sl ([.ref (a 0)])).length) Slot.unset).toArray = ls at hl ⊢
  have hl : lv_has ls 4 [(0, .ref (a 0))] := hl
  refine lv_aload_n hx hb dM_know_0 rfl (lv_at hl 0 rfl) ?_
  refine va_get (D := G) (ci := 1) (v := .int (mkn V)) (C := RX1) (T := TM) (N := 18) hx hb hts hfi hown hK hP 0 rfl rfl 17 (by decide) (hts (.fieldLink RX1 65 "PortRulesModel" "known" "Z") (by decide +kernel)) (fun _ h9 => h9) rfl dM_know_1 ?_
  refine lv_if_eq (tgt := 8) hx hb dM_know_4 (by decide) (fun c4 => ?_) (fun c4 => ?_)
  · exact absurd c4 hk0
  · exact rd_vret hx hb hr dM_know_7 hlocks
set_option maxHeartbeats 4000000 in
set_option maxRecDepth 100000 in
theorem cm_leadToK (l : Launch) (G : va_G) (cA : Nat → ClassId) (a : Nat → Nat) (V : MV) (q0 : Nat) (h30 : mnp V ≤ 30) (h60 : mnq V ≤ 60) (hk0 : ¬ mkn V = 0) (hkn : mKn V) (hq1 : 1 ≤ q0) (hq2 : q0 ≤ mnq V) : Met l yM_leadTo wsM_leadTo { frames := 2, cells := 0, slots := 0, locals := 45 } (rd_Pc G vwC2 (tT cA) (mW cA a V) [.ref (a 0), .int (nI q0)]) (k2_QcV (.int (nI (mTo V q0)))) 0 0 (fun _ => False) := by
  refine Met.ofW (cc := cM_leadTo) (maxL := 4) (ret := some .int) (by decide) rfl ?_
  intro p e s m args below meth c s₁ B hml hv
  obtain ⟨rfl, hP, hK⟩ := hv
  have hx := B.exec
  have hb := B.bytes
  have hr := B.returns
  have hts := atoms_spec (ws := wsM_leadTo) B.pre
  have hown : s.vm.findClass RX1 = some m.cls := findClass_of_methodNamed B.named
  have hlocks := B.notSynchronized
  have hfi : ∀ w ∈ u_ws RX1 TM 18, w ∈ wsM_leadTo := fun w h => List.mem_cons_of_mem _ (wMA_f w h)
  have hl := lv_entry ([.ref (a 0), .int (nI q0)]) (n := 4) (Nat.le_of_ble_eq_true rfl)
  rw [lg_entry_eq]
  generalize (lg_sl ([.ref (a 0), .int (nI q0)]) ++ List.replicate (4 - (lg_sl ([.ref (a 0), .int (nI q0)])).length) Slot.unset).toArray = ls at hl ⊢
  have hl : lv_has ls 4 [(0, .ref (a 0)), (1, .int (nI q0))] := hl
  refine lv_aload_n hx hb dM_leadTo_0 rfl (lv_at hl 0 rfl) ?_
  refine rd_callN (As := []) (rest := []) (b := a 0) (q0 := 0) (ci := 1) ⟨hx, hb, hml, hown, hts⟩ (cm_knowK l G cA a V hk0) (cwV 0 hts gM_leadTo_M_know rfl rfl rfl (by decide +kernel) ⟨Nat.le_of_ble_eq_true rfl, Nat.le_of_ble_eq_true rfl⟩) hK hP rfl rfl rfl rfl hl.1 rfl (Nat.le_of_ble_eq_true rfl) dM_leadTo_1 ⟨Nat.zero_le _, Nat.zero_le _⟩ ?_
  refine lv_iconst (v := nI 0) hx hb dM_leadTo_4 (by decide) ?_
  refine lv_istore_n (lv' := [(2, .int (nI 0)), (0, .ref (a 0)), (1, .int (nI q0))]) hx hb dM_leadTo_5 rfl hl (by decide) rfl (fun ls hl => ?_)
  refine lv_iconst (v := nI 1) hx hb dM_leadTo_6 (by decide) ?_
  refine lv_istore_n (lv' := [(3, .int (nI 1)), (2, .int (nI 0)), (0, .ref (a 0)), (1, .int (nI q0))]) hx hb dM_leadTo_7 rfl hl (by decide) rfl (fun ls hl => ?_)
  refine rd_loop (fun k ls => ∃ i n : Nat, 1 ≤ i ∧ i + k = mnq V + 1 ∧ n + pu_cnt (fun p0 => mF V p0 q0) k i = mTo V q0 ∧ lv_has ls 4 [(3, .int (nI i)), (2, .int (nI n)), (0, .ref (a 0)), (1, .int (nI q0))]) ?_ (mnq V) ls ⟨1, 0, by omega, by omega, Nat.zero_add _, (lv_sub hl [0, 1, 2, 3] rfl)⟩
  intro k8 ls ⟨i, n, hi, hk, hR, hl⟩ ih8
  refine lv_iload_n hx hb dM_leadTo_8 rfl (lv_at hl 0 rfl) ?_
  refine lv_aload_n hx hb dM_leadTo_9 rfl (lv_at hl 2 rfl) ?_
  refine va_get (D := G) (ci := 1) (v := .int (nI (mnq V))) (C := RX1) (T := TM) (N := 18) hx hb hts hfi hown hK hP 0 rfl rfl 3 (by decide) (hts (.fieldLink RX1 71 "PortRulesModel" "ports" "I") (by decide +kernel)) (fun _ h9 => h9) rfl dM_leadTo_10 ?_
  refine nb_gt (tgt := 39) hx hb dM_leadTo_13 (by decide) (by omega) (by omega) (fun c13 => ?_) (fun c13 => ?_)
  · refine lv_iload_n hx hb dM_leadTo_39 rfl (lv_at hl 1 rfl) ?_
    exact rd_iret hx hb hr (by rw [← hR, show k8 = 0 by omega]; rfl) dM_leadTo_40 hlocks
  · obtain ⟨k8, rfl⟩ : ∃ z, k8 = z + 1 := ⟨k8 - 1, by omega⟩
    refine lv_iload_n hx hb dM_leadTo_16 rfl (lv_at hl 1 rfl) ?_
    refine lv_aload_n hx hb dM_leadTo_17 rfl (lv_at hl 2 rfl) ?_
    refine lv_iload_n hx hb dM_leadTo_18 rfl (lv_at hl 0 rfl) ?_
    refine lv_iload_n hx hb dM_leadTo_19 rfl (lv_at hl 3 rfl) ?_
    refine rd_callV (As := [.int (nI i), .int (nI q0)]) (rest := [.int (nI n)]) (b := a 0) (q0 := 0) (ci := 1) ⟨hx, hb, hml, hown, hts⟩ (cm_isFlat l G cA a V i q0 h30 h60 hkn (by omega) (by omega) (by omega) (by omega)) (cwV 2 hts gM_leadTo_M_isFlat rfl rfl rfl (by decide +kernel) ⟨Nat.le_of_ble_eq_true rfl, Nat.le_of_ble_eq_true rfl⟩) hK hP rfl rfl rfl rfl hl.1 rfl (Nat.le_of_ble_eq_true rfl) dM_leadTo_20 ⟨Nat.zero_le _, Nat.zero_le _⟩ ?_
    refine bb_eq (tgt := 30) hx hb dM_leadTo_23 (by decide) (fun c23 => ?_) (fun c23 => ?_)
    · refine lv_iconst (v := nI 0) hx hb dM_leadTo_30 (by decide) ?_
      refine lv_iadd hx hb dM_leadTo_31 ?_
      refine rd_topi (y := nI n) (nI_add n 0) ?_
      refine lv_istore_n (lv' := [(2, .int (nI n)), (3, .int (nI i)), (0, .ref (a 0)), (1, .int (nI q0))]) hx hb dM_leadTo_32 rfl hl (by decide) rfl (fun ls hl => ?_)
      refine lv_iinc (v := nI (i + 1)) (lv' := [(3, .int (nI (i + 1))), (2, .int (nI n)), (0, .ref (a 0)), (1, .int (nI q0))]) hx hb dM_leadTo_33 hl (k := 1) rfl (ni_inc _) (by decide) rfl (fun ls hl => ?_)
      refine lv_goto (tgt := 8) hx hb dM_leadTo_36 (by decide) ?_
      exact ih8 k8 ls (by omega) ⟨i + 1, n, by omega, by omega, by have h := pu_cnt_f (k := k8) (P := fun p0 => mF V p0 q0) (i := i) c23; omega, (lv_sub hl [0, 1, 2, 3] rfl)⟩
    · refine lv_iconst (v := nI 1) hx hb dM_leadTo_26 (by decide) ?_
      refine lv_goto (tgt := 31) hx hb dM_leadTo_27 (by decide) ?_
      refine lv_iadd hx hb dM_leadTo_31 ?_
      refine rd_topi (y := nI (n + 1)) (nI_add n 1) ?_
      refine lv_istore_n (lv' := [(2, .int (nI (n + 1))), (3, .int (nI i)), (0, .ref (a 0)), (1, .int (nI q0))]) hx hb dM_leadTo_32 rfl hl (by decide) rfl (fun ls hl => ?_)
      refine lv_iinc (v := nI (i + 1)) (lv' := [(3, .int (nI (i + 1))), (2, .int (nI (n + 1))), (0, .ref (a 0)), (1, .int (nI q0))]) hx hb dM_leadTo_33 hl (k := 1) rfl (ni_inc _) (by decide) rfl (fun ls hl => ?_)
      refine lv_goto (tgt := 8) hx hb dM_leadTo_36 (by decide) ?_
      exact ih8 k8 ls (by omega) ⟨i + 1, n + 1, by omega, by omega, by have h := pu_cnt_t (k := k8) (P := fun p0 => mF V p0 q0) (i := i) c23; omega, (lv_sub hl [0, 1, 2, 3] rfl)⟩
set_option maxHeartbeats 4000000 in
set_option maxRecDepth 100000 in
theorem cm_isBrokenAtK (l : Launch) (G : va_G) (cA : Nat → ClassId) (a : Nat → Nat) (V : MV) (r0 q0 : Nat) (h30 : mnp V ≤ 30) (h60 : mnq V ≤ 60) (hk0 : ¬ mkn V = 0) (hkn : mKn V) (hr0 : r0 ≤ 9) (hq1 : 1 ≤ q0) (hq2 : q0 ≤ mnq V) : Met l yM_isBrokenAt wsM_isBrokenAt { frames := 3, cells := 0, slots := 0, locals := 68 } (rd_Pc G vwC2 (tT cA) (mW cA a V) [.ref (a 0), .int (nI r0), .int (nI q0)]) (k2_QcV (.int (z1 (mPB V r0 q0)))) 0 0 (fun _ => False) := by
  refine Met.ofW (cc := cM_isBrokenAt) (maxL := 4) (ret := some .boolean) (by decide) rfl ?_
  intro p e s m args below meth c s₁ B hml hv
  obtain ⟨rfl, hP, hK⟩ := hv
  have hx := B.exec
  have hb := B.bytes
  have hr := B.returns
  have hts := atoms_spec (ws := wsM_isBrokenAt) B.pre
  have hown : s.vm.findClass RX1 = some m.cls := findClass_of_methodNamed B.named
  have hlocks := B.notSynchronized
  have hfi : ∀ w ∈ u_ws RX1 TM 18, w ∈ wsM_isBrokenAt := fun w h => List.mem_cons_of_mem _ (wMA_f w h)
  have hl := lv_entry ([.ref (a 0), .int (nI r0), .int (nI q0)]) (n := 4) (Nat.le_of_ble_eq_true rfl)
  rw [lg_entry_eq]
  generalize (lg_sl ([.ref (a 0), .int (nI r0), .int (nI q0)]) ++ List.replicate (4 - (lg_sl ([.ref (a 0), .int (nI r0), .int (nI q0)])).length) Slot.unset).toArray = ls at hl ⊢
  have hl : lv_has ls 4 [(0, .ref (a 0)), (1, .int (nI r0)), (2, .int (nI q0))] := hl
  have hto : mTo V q0 ≤ mnq V := pu_cnt_le _ _ _
  refine lv_aload_n hx hb dM_isBrokenAt_0 rfl (lv_at hl 0 rfl) ?_
  refine lv_iload_n hx hb dM_isBrokenAt_1 rfl (lv_at hl 2 rfl) ?_
  refine rd_callV (As := [.int (nI q0)]) (rest := []) (b := a 0) (q0 := 0) (ci := 1) ⟨hx, hb, hml, hown, hts⟩ (cm_leadToK l G cA a V q0 h30 h60 hk0 hkn (by omega) (by omega)) (cwV 1 hts gM_isBrokenAt_M_leadTo rfl rfl rfl (by decide +kernel) ⟨Nat.le_of_ble_eq_true rfl, Nat.le_of_ble_eq_true rfl⟩) hK hP rfl rfl rfl rfl hl.1 rfl (Nat.le_of_ble_eq_true rfl) dM_isBrokenAt_2 ⟨Nat.zero_le _, Nat.zero_le _⟩ ?_
  refine lv_istore_n (lv' := [(3, .int (nI (mTo V q0))), (0, .ref (a 0)), (1, .int (nI r0)), (2, .int (nI q0))]) hx hb dM_isBrokenAt_5 rfl hl (by decide) rfl (fun ls hl => ?_)
  refine lv_iload_n hx hb dM_isBrokenAt_6 rfl (lv_at hl 2 rfl) ?_
  by_cases r5 : r0 = 5
  · subst r5
    refine lv_tableIn (off := 25) (tgt := 32) hx hb dM_isBrokenAt_7 (by decide) (by decide) (by decide) (by decide) ?_
    refine lv_aload_n hx hb dM_isBrokenAt_32 rfl (lv_at hl 1 rfl) ?_
    refine va_get (D := G) (ci := 1) (v := .ref (a 5)) (C := RX1) (T := TM) (N := 18) hx hb hts hfi hown hK hP 0 rfl rfl 5 (by decide) (hts (.fieldLink RX1 16 "PortRulesModel" "kindOf" "[I") (by decide +kernel)) (fun _ h9 => h9) rfl dM_isBrokenAt_33 ?_
    refine lv_iload_n hx hb dM_isBrokenAt_36 rfl (lv_at hl 3 rfl) ?_
    refine rd_iald hx hb hK hP 3 0 rfl rfl (by omega) (by decide) dM_isBrokenAt_37 ?_
    refine lv_iconst (v := 2) hx hb dM_isBrokenAt_38 (by decide) ?_
    refine lv_icmp_eq (tgt := 59) hx hb dM_isBrokenAt_39 (by decide) (fun c39 => ?_) (fun c39 => ?_)
    · refine lv_iconst (v := 0) hx hb dM_isBrokenAt_59 (by decide) ?_
      exact rd_zret hx hb hr rfl (z1_f (by unfold mPB; simp [c39] <;> omega)) dM_isBrokenAt_60 hlocks
    · refine lv_iload_n hx hb dM_isBrokenAt_42 rfl (lv_at hl 0 rfl) ?_
      refine bn_ne (tgt := 59) hx hb dM_isBrokenAt_43 (by decide) (by omega) (fun c43 => ?_) (fun c43 => ?_)
      · refine lv_iconst (v := 0) hx hb dM_isBrokenAt_59 (by decide) ?_
        exact rd_zret hx hb hr rfl (z1_f (by unfold mPB; simp [c39, c43] <;> omega)) dM_isBrokenAt_60 hlocks
      · refine lv_aload_n hx hb dM_isBrokenAt_46 rfl (lv_at hl 1 rfl) ?_
        refine va_get (D := G) (ci := 1) (v := .ref (a 11)) (C := RX1) (T := TM) (N := 18) hx hb hts hfi hown hK hP 0 rfl rfl 11 (by decide) (hts (.fieldLink RX1 36 "PortRulesModel" "hasFallback" "[Z") (by decide +kernel)) (fun _ h9 => h9) rfl dM_isBrokenAt_47 ?_
        refine lv_iload_n hx hb dM_isBrokenAt_50 rfl (lv_at hl 3 rfl) ?_
        refine rd_zald hx hb hK hP 9 1 rfl rfl (by omega) (by decide) dM_isBrokenAt_51 ?_
        refine lv_if_ne (tgt := 59) hx hb dM_isBrokenAt_52 (by decide) (fun c52 => ?_) (fun c52 => ?_)
        · refine lv_iconst (v := 0) hx hb dM_isBrokenAt_59 (by decide) ?_
          exact rd_zret hx hb hr rfl (z1_f (by unfold mPB; simp [c39, c43, c52] <;> omega)) dM_isBrokenAt_60 hlocks
        · refine lv_iconst (v := 1) hx hb dM_isBrokenAt_55 (by decide) ?_
          refine lv_goto (tgt := 60) hx hb dM_isBrokenAt_56 (by decide) ?_
          exact rd_zret hx hb hr rfl (z1_t (by unfold mPB; simp [c39, c43, c52] <;> omega)) dM_isBrokenAt_60 hlocks
  · skip
    by_cases r6 : r0 = 6
    · subst r6
      refine lv_tableIn (off := 54) (tgt := 61) hx hb dM_isBrokenAt_7 (by decide) (by decide) (by decide) (by decide) ?_
      refine lv_aload_n hx hb dM_isBrokenAt_61 rfl (lv_at hl 1 rfl) ?_
      refine va_get (D := G) (ci := 1) (v := .ref (a 5)) (C := RX1) (T := TM) (N := 18) hx hb hts hfi hown hK hP 0 rfl rfl 5 (by decide) (hts (.fieldLink RX1 16 "PortRulesModel" "kindOf" "[I") (by decide +kernel)) (fun _ h9 => h9) rfl dM_isBrokenAt_62 ?_
      refine lv_iload_n hx hb dM_isBrokenAt_65 rfl (lv_at hl 3 rfl) ?_
      refine rd_iald hx hb hK hP 3 0 rfl rfl (by omega) (by decide) dM_isBrokenAt_66 ?_
      refine lv_iconst (v := 2) hx hb dM_isBrokenAt_67 (by decide) ?_
      refine lv_icmp_ne (tgt := 79) hx hb dM_isBrokenAt_68 (by decide) (fun c68 => ?_) (fun c68 => ?_)
      · refine lv_iconst (v := 0) hx hb dM_isBrokenAt_79 (by decide) ?_
        exact rd_zret hx hb hr rfl (z1_f (by unfold mPB; simp [c68] <;> omega)) dM_isBrokenAt_80 hlocks
      · refine lv_iload_n hx hb dM_isBrokenAt_71 rfl (lv_at hl 0 rfl) ?_
        refine bn_ne (tgt := 79) hx hb dM_isBrokenAt_72 (by decide) (by omega) (fun c72 => ?_) (fun c72 => ?_)
        · refine lv_iconst (v := 0) hx hb dM_isBrokenAt_79 (by decide) ?_
          exact rd_zret hx hb hr rfl (z1_f (by unfold mPB; simp [c68, c72] <;> omega)) dM_isBrokenAt_80 hlocks
        · refine lv_iconst (v := 1) hx hb dM_isBrokenAt_75 (by decide) ?_
          refine lv_goto (tgt := 80) hx hb dM_isBrokenAt_76 (by decide) ?_
          exact rd_zret hx hb hr rfl (z1_t (by unfold mPB; simp [c68, c72] <;> omega)) dM_isBrokenAt_80 hlocks
    · skip
      by_cases r7 : r0 = 7
      · subst r7
        refine lv_tableIn (off := 74) (tgt := 81) hx hb dM_isBrokenAt_7 (by decide) (by decide) (by decide) (by decide) ?_
        refine lv_aload_n hx hb dM_isBrokenAt_81 rfl (lv_at hl 1 rfl) ?_
        refine va_get (D := G) (ci := 1) (v := .ref (a 5)) (C := RX1) (T := TM) (N := 18) hx hb hts hfi hown hK hP 0 rfl rfl 5 (by decide) (hts (.fieldLink RX1 16 "PortRulesModel" "kindOf" "[I") (by decide +kernel)) (fun _ h9 => h9) rfl dM_isBrokenAt_82 ?_
        refine lv_iload_n hx hb dM_isBrokenAt_85 rfl (lv_at hl 3 rfl) ?_
        refine rd_iald hx hb hK hP 3 0 rfl rfl (by omega) (by decide) dM_isBrokenAt_86 ?_
        refine lv_iconst (v := 2) hx hb dM_isBrokenAt_87 (by decide) ?_
        refine lv_icmp_ne (tgt := 100) hx hb dM_isBrokenAt_88 (by decide) (fun c88 => ?_) (fun c88 => ?_)
        · refine lv_iconst (v := 0) hx hb dM_isBrokenAt_100 (by decide) ?_
          exact rd_zret hx hb hr rfl (z1_f (by unfold mPB; simp [c88] <;> omega)) dM_isBrokenAt_101 hlocks
        · refine lv_iload_n hx hb dM_isBrokenAt_91 rfl (lv_at hl 0 rfl) ?_
          refine lv_iconst (v := 1) hx hb dM_isBrokenAt_92 (by decide) ?_
          refine bi_le (a := (((mTo V q0) : Nat) : Int)) (b := 1) (tgt := 100) hx hb dM_isBrokenAt_93 (by decide) (nI_toInt (by omega)) (by decide) (fun c93 => ?_) (fun c93 => ?_)
          · refine lv_iconst (v := 0) hx hb dM_isBrokenAt_100 (by decide) ?_
            exact rd_zret hx hb hr rfl (z1_f (by unfold mPB; simp [c88, c93] <;> omega)) dM_isBrokenAt_101 hlocks
          · refine lv_iconst (v := 1) hx hb dM_isBrokenAt_96 (by decide) ?_
            refine lv_goto (tgt := 101) hx hb dM_isBrokenAt_97 (by decide) ?_
            exact rd_zret hx hb hr rfl (z1_t (by unfold mPB; simp [c88, c93] <;> omega)) dM_isBrokenAt_101 hlocks
      · skip
        refine lv_tableOut (tgt := 102) hx hb dM_isBrokenAt_7 (by rw [nI_toInt (by omega)]; omega) (by decide) ?_
        refine lv_aload_n hx hb dM_isBrokenAt_102 rfl (lv_at hl 1 rfl) ?_
        refine va_get (D := G) (ci := 1) (v := .ref (a 5)) (C := RX1) (T := TM) (N := 18) hx hb hts hfi hown hK hP 0 rfl rfl 5 (by decide) (hts (.fieldLink RX1 16 "PortRulesModel" "kindOf" "[I") (by decide +kernel)) (fun _ h9 => h9) rfl dM_isBrokenAt_103 ?_
        refine lv_iload_n hx hb dM_isBrokenAt_106 rfl (lv_at hl 3 rfl) ?_
        refine rd_iald hx hb hK hP 3 0 rfl rfl (by omega) (by decide) dM_isBrokenAt_107 ?_
        refine lv_iconst (v := 1) hx hb dM_isBrokenAt_108 (by decide) ?_
        refine lv_icmp_ne (tgt := 125) hx hb dM_isBrokenAt_109 (by decide) (fun c109 => ?_) (fun c109 => ?_)
        · refine lv_iconst (v := 0) hx hb dM_isBrokenAt_125 (by decide) ?_
          exact rd_zret hx hb hr rfl (z1_f (by unfold mPB; simp [c109, r5, r6, r7] <;> omega)) dM_isBrokenAt_126 hlocks
        · refine lv_aload_n hx hb dM_isBrokenAt_112 rfl (lv_at hl 1 rfl) ?_
          refine va_get (D := G) (ci := 1) (v := .ref (a 13)) (C := RX1) (T := TM) (N := 18) hx hb hts hfi hown hK hP 0 rfl rfl 13 (by decide) (hts (.fieldLink RX1 42 "PortRulesModel" "queue" "[I") (by decide +kernel)) (fun _ h9 => h9) rfl dM_isBrokenAt_113 ?_
          refine lv_iload_n hx hb dM_isBrokenAt_116 rfl (lv_at hl 3 rfl) ?_
          refine rd_iald hx hb hK hP 11 0 rfl rfl (by omega) (by decide) dM_isBrokenAt_117 ?_
          refine lv_if_ne (tgt := 125) hx hb dM_isBrokenAt_118 (by decide) (fun c118 => ?_) (fun c118 => ?_)
          · refine lv_iconst (v := 0) hx hb dM_isBrokenAt_125 (by decide) ?_
            exact rd_zret hx hb hr rfl (z1_f (by unfold mPB; simp [c109, c118, r5, r6, r7] <;> omega)) dM_isBrokenAt_126 hlocks
          · refine lv_iconst (v := 1) hx hb dM_isBrokenAt_121 (by decide) ?_
            refine lv_goto (tgt := 126) hx hb dM_isBrokenAt_122 (by decide) ?_
            exact rd_zret hx hb hr rfl (z1_t (by unfold mPB; simp [c109, c118, r5, r6, r7] <;> omega)) dM_isBrokenAt_126 hlocks
