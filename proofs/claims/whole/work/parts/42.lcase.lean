/-! THE LAW, case by case: from the switch to the loop's step -/
set_option maxHeartbeats 4000000 in
set_option maxRecDepth 100000 in
theorem lc_part {p : Program} {e : Env} {s : State} {m : MethodId} {below : List Frame} {meth : Method} {c : Code} {l : Launch} (hstk : l.stackTraces = false) {b L i sa ob cells slots : Nat} {xs : Nat → Int32} {G : va_G} {cA : Nat → ClassId} {ax am : Nat → Nat} {V : XV} {M : MV} {H : Heap} {locs : List Loc} {ls : Array Slot} {Q : State → Prop} (C0 : lw_At p s m meth c b L xs) (hK : va_K G vwC2 (tT cA) s) (hZ : vxS sa s s.heap (fun q => s.heap.size ≤ q)) (hL : L ≤ 3584) (hi : i + 7 ≤ L) (hc : cells + 1 ≤ 1057) (hsl : slots + 6 ≤ 17133) (hI : LI s G cA ax am ob H locs V M) (hl : lv_has ls 7 [(4, .int (nI i)), (0, .ref b), (1, .ref (ax 0)), (2, .ref (am 0)), (3, .ref ob)])
    (kk : ∀ (V : XV) (M : MV) (H : Heap) (locs : List Loc) (ls : Array Slot), LI s G cA ax am ob H locs V M → lv_has ls 7 [(4, .int (nI i)), (0, .ref b), (1, .ref (ax 0)), (2, .ref (am 0)), (3, .ref ob)] → W p l e room_1 s m #[Value.ref b] below meth c H locs (cells + 1) (slots + 6) Q (F0 m 625 ls [])) : W p l e room_1 s m #[Value.ref b] below meth c H locs cells slots Q (F0 m 104 ls []) := by
  obtain ⟨hx, hb, hr, hml, hown0, hts, hX, hbl, hlocks, hgv⟩ := id C0
  have hown : s.vm.findClass RL = some m.cls := hown0
  have htl : ∀ w ∈ wsL_law, w.before #[Value.ref b] s = true := fun w h => hts w (wsL_law_in w h)
  have hbA : ¬ s.heap.size ≤ b := Nat.not_le.mpr hbl
  obtain ⟨o, hPx, hPm, hPo, hD, hS, hrel⟩ := hI
  have h30 : xnp V ≤ 30 := hrel.1.1.2.2.1
  have h60 : xnq V ≤ 60 := hrel.1.1.2.2.2
  have hxo := rel_xOK hrel.1
  have hmo := rel_mOK hrel.1
  have hf0 : cells ≤ 1057 ∧ slots ≤ 17133 := ⟨by omega, by omega⟩
  refine lv_aload_n hx hb dL_law_104 rfl (lv_at hl 2 rfl) ?_
  refine lv_aload_n hx hb dL_law_105 rfl (lv_at hl 1 rfl) ?_
  refine lv_iload hx hb dL_law_106 (lv_at hl 0 rfl) ?_
  refine lv_iconst (v := nI 1) hx hb dL_law_108 (by decide) ?_
  refine lv_iadd hx hb dL_law_109 ?_
  refine rd_topi (nI_add i 1) ?_
  refine ls_sld hx hb hX hbl hbA hS (by omega) (by omega) dL_law_110 ?_
  refine mu_callF (A := fun q => s.heap.size ≤ q) (H0 := s.heap) (wc := xW cA ax V) (wr := mW cA am M ++ oW cA ob o) (As := [.int (xs (i + 1))]) (rest := []) (b := ax 0) (q0 := 0) (ci := 0) ⟨hx, hb, hml, hown, htl⟩ (cx_part l G cA ax V (xs (i + 1)) h30 h60) (cwV 1 htl gL_law_X0_part rfl rfl rfl (by decide +kernel) ⟨Nat.le_of_ble_eq_true rfl, Nat.le_of_ble_eq_true rfl⟩) hK hPx (hPm.app hPo) hD hS rfl rfl rfl (fun _ _ => rfl) rfl hl.1 rfl (Nat.le_of_ble_eq_true rfl) dL_law_111 hf0 (fun u H locs hu hPx hPr hD hS => ?_)
  subst hu
  have hPm := va_Pl hPr
  have hPo := va_Pr hPr
  have hD := hD_xm hD
  refine lv_aload_n hx hb dL_law_114 rfl (lv_at hl 3 rfl) ?_
  refine lv_aload_n hx hb dL_law_115 rfl (lv_at hl 1 rfl) ?_
  refine lv_iload hx hb dL_law_116 (lv_at hl 0 rfl) ?_
  refine lv_iconst (v := nI 1) hx hb dL_law_118 (by decide) ?_
  refine lv_iadd hx hb dL_law_119 ?_
  refine rd_topi (nI_add i 1) ?_
  refine ls_sld hx hb hX hbl hbA hS (by omega) (by omega) dL_law_120 ?_
  refine mu_callF (A := fun q => s.heap.size ≤ q) (H0 := s.heap) (wc := mW cA am M) (wr := xW cA ax (xPart V (xs (i + 1))).2 ++ oW cA ob o) (As := [.int (xs (i + 1))]) (rest := [.int (xPart V (xs (i + 1))).1]) (b := am 0) (q0 := 0) (ci := 1) ⟨hx, hb, hml, hown, hts⟩ (cm_part l G cA am M (xs (i + 1)) hmo.1) (cwV 1 hts gL_law_M_part rfl rfl rfl (by decide +kernel) ⟨Nat.le_of_ble_eq_true rfl, Nat.le_of_ble_eq_true rfl⟩) hK hPm (hPx.app hPo) hD hS rfl rfl rfl (fun _ _ => rfl) rfl hl.1 rfl (Nat.le_of_ble_eq_true rfl) dL_law_121 hf0 (fun u H locs hu hPm hPr hD hS => ?_)
  subst hu
  have hPx := va_Pl hPr
  have hPo := va_Pr hPr
  have hD := hD_mx hD
  refine lv_icmp_eq (tgt := 625) hx hb dL_law_124 (by decide) (fun c9 => ?_) (fun c9 => absurd ((keep_part hrel (xs (i + 1))).1) c9)
  refine W.widen (k := cells + 1) (n := slots + 6) (by omega) (by omega) ?_
  exact kk _ _ H locs ls ⟨o, hPx, hPm, hPo, hD, hS, (keep_part hrel (xs (i + 1))).2⟩ hl
set_option maxHeartbeats 4000000 in
set_option maxRecDepth 100000 in
theorem lc_port {p : Program} {e : Env} {s : State} {m : MethodId} {below : List Frame} {meth : Method} {c : Code} {l : Launch} (hstk : l.stackTraces = false) {b L i sa ob cells slots : Nat} {xs : Nat → Int32} {G : va_G} {cA : Nat → ClassId} {ax am : Nat → Nat} {V : XV} {M : MV} {H : Heap} {locs : List Loc} {ls : Array Slot} {Q : State → Prop} (C0 : lw_At p s m meth c b L xs) (hK : va_K G vwC2 (tT cA) s) (hZ : vxS sa s s.heap (fun q => s.heap.size ≤ q)) (hL : L ≤ 3584) (hi : i + 7 ≤ L) (hc : cells + 1 ≤ 1057) (hsl : slots + 6 ≤ 17133) (hI : LI s G cA ax am ob H locs V M) (hl : lv_has ls 7 [(4, .int (nI i)), (0, .ref b), (1, .ref (ax 0)), (2, .ref (am 0)), (3, .ref ob)])
    (kk : ∀ (V : XV) (M : MV) (H : Heap) (locs : List Loc) (ls : Array Slot), LI s G cA ax am ob H locs V M → lv_has ls 7 [(4, .int (nI i)), (0, .ref b), (1, .ref (ax 0)), (2, .ref (am 0)), (3, .ref ob)] → W p l e room_1 s m #[Value.ref b] below meth c H locs (cells + 1) (slots + 6) Q (F0 m 625 ls [])) : W p l e room_1 s m #[Value.ref b] below meth c H locs cells slots Q (F0 m 129 ls []) := by
  obtain ⟨hx, hb, hr, hml, hown0, hts, hX, hbl, hlocks, hgv⟩ := id C0
  have hown : s.vm.findClass RL = some m.cls := hown0
  have htl : ∀ w ∈ wsL_law, w.before #[Value.ref b] s = true := fun w h => hts w (wsL_law_in w h)
  have hbA : ¬ s.heap.size ≤ b := Nat.not_le.mpr hbl
  obtain ⟨o, hPx, hPm, hPo, hD, hS, hrel⟩ := hI
  have h30 : xnp V ≤ 30 := hrel.1.1.2.2.1
  have h60 : xnq V ≤ 60 := hrel.1.1.2.2.2
  have hxo := rel_xOK hrel.1
  have hmo := rel_mOK hrel.1
  have hf0 : cells ≤ 1057 ∧ slots ≤ 17133 := ⟨by omega, by omega⟩
  by_cases h3 : xs (i + 3) = 0
  · refine lv_aload_n hx hb dL_law_129 rfl (lv_at hl 2 rfl) ?_
    refine lv_aload_n hx hb dL_law_130 rfl (lv_at hl 1 rfl) ?_
    refine lv_iload hx hb dL_law_131 (lv_at hl 0 rfl) ?_
    refine lv_iconst (v := nI 1) hx hb dL_law_133 (by decide) ?_
    refine lv_iadd hx hb dL_law_134 ?_
    refine rd_topi (nI_add i 1) ?_
    refine ls_sld hx hb hX hbl hbA hS (by omega) (by omega) dL_law_135 ?_
    refine lv_aload_n hx hb dL_law_136 rfl (lv_at hl 1 rfl) ?_
    refine lv_iload hx hb dL_law_137 (lv_at hl 0 rfl) ?_
    refine lv_iconst (v := nI 2) hx hb dL_law_139 (by decide) ?_
    refine lv_iadd hx hb dL_law_140 ?_
    refine rd_topi (nI_add i 2) ?_
    refine ls_sld hx hb hX hbl hbA hS (by omega) (by omega) dL_law_141 ?_
    refine lv_aload_n hx hb dL_law_142 rfl (lv_at hl 1 rfl) ?_
    refine lv_iload hx hb dL_law_143 (lv_at hl 0 rfl) ?_
    refine lv_iconst (v := nI 3) hx hb dL_law_145 (by decide) ?_
    refine lv_iadd hx hb dL_law_146 ?_
    refine rd_topi (nI_add i 3) ?_
    refine ls_sld hx hb hX hbl hbA hS (by omega) (by omega) dL_law_147 ?_
    refine lv_if_eq (tgt := 155) hx hb dL_law_148 (by decide) (fun _ => ?_) (fun c9 => absurd h3 c9)
    refine lv_iconst (v := 0) hx hb dL_law_155 (by decide) ?_
    refine mu_callF (A := fun q => s.heap.size ≤ q) (H0 := s.heap) (wc := xW cA ax V) (wr := mW cA am M ++ oW cA ob o) (As := [.int (xs (i + 1)), .int (xs (i + 2)), .int 0]) (rest := []) (b := ax 0) (q0 := 0) (ci := 0) ⟨hx, hb, hml, hown, htl⟩ (cx_port l G cA ax V (xs (i + 1)) (xs (i + 2)) 0 h30 h60 (by decide)) (cwV 3 htl gL_law_X0_port rfl rfl rfl (by decide +kernel) ⟨Nat.le_of_ble_eq_true rfl, Nat.le_of_ble_eq_true rfl⟩) hK hPx (hPm.app hPo) hD hS rfl rfl rfl (fun _ _ => rfl) rfl hl.1 rfl (Nat.le_of_ble_eq_true rfl) dL_law_156 hf0 (fun u H locs hu hPx hPr hD hS => ?_)
    subst hu
    have hPm := va_Pl hPr
    have hPo := va_Pr hPr
    have hD := hD_xm hD
    refine lv_aload_n hx hb dL_law_159 rfl (lv_at hl 3 rfl) ?_
    refine lv_aload_n hx hb dL_law_160 rfl (lv_at hl 1 rfl) ?_
    refine lv_iload hx hb dL_law_161 (lv_at hl 0 rfl) ?_
    refine lv_iconst (v := nI 1) hx hb dL_law_163 (by decide) ?_
    refine lv_iadd hx hb dL_law_164 ?_
    refine rd_topi (nI_add i 1) ?_
    refine ls_sld hx hb hX hbl hbA hS (by omega) (by omega) dL_law_165 ?_
    refine lv_aload_n hx hb dL_law_166 rfl (lv_at hl 1 rfl) ?_
    refine lv_iload hx hb dL_law_167 (lv_at hl 0 rfl) ?_
    refine lv_iconst (v := nI 2) hx hb dL_law_169 (by decide) ?_
    refine lv_iadd hx hb dL_law_170 ?_
    refine rd_topi (nI_add i 2) ?_
    refine ls_sld hx hb hX hbl hbA hS (by omega) (by omega) dL_law_171 ?_
    refine lv_aload_n hx hb dL_law_172 rfl (lv_at hl 1 rfl) ?_
    refine lv_iload hx hb dL_law_173 (lv_at hl 0 rfl) ?_
    refine lv_iconst (v := nI 3) hx hb dL_law_175 (by decide) ?_
    refine lv_iadd hx hb dL_law_176 ?_
    refine rd_topi (nI_add i 3) ?_
    refine ls_sld hx hb hX hbl hbA hS (by omega) (by omega) dL_law_177 ?_
    refine lv_if_eq (tgt := 185) hx hb dL_law_178 (by decide) (fun _ => ?_) (fun c9 => absurd h3 c9)
    refine lv_iconst (v := 0) hx hb dL_law_185 (by decide) ?_
    refine mu_callF (A := fun q => s.heap.size ≤ q) (H0 := s.heap) (wc := mW cA am M) (wr := xW cA ax (xPort V (xs (i + 1)) (xs (i + 2)) 0).2 ++ oW cA ob o) (As := [.int (xs (i + 1)), .int (xs (i + 2)), .int 0]) (rest := [.int (xPort V (xs (i + 1)) (xs (i + 2)) 0).1]) (b := am 0) (q0 := 0) (ci := 1) ⟨hx, hb, hml, hown, hts⟩ (cm_port l G cA am M (xs (i + 1)) (xs (i + 2)) 0 hmo.1 hmo.2.1 (by decide)) (cwV 3 hts gL_law_M_port rfl rfl rfl (by decide +kernel) ⟨Nat.le_of_ble_eq_true rfl, Nat.le_of_ble_eq_true rfl⟩) hK hPm (hPx.app hPo) hD hS rfl rfl rfl (fun _ _ => rfl) rfl hl.1 rfl (Nat.le_of_ble_eq_true rfl) dL_law_186 hf0 (fun u H locs hu hPm hPr hD hS => ?_)
    subst hu
    have hPx := va_Pl hPr
    have hPo := va_Pr hPr
    have hD := hD_mx hD
    refine lv_icmp_eq (tgt := 625) hx hb dL_law_189 (by decide) (fun c9 => ?_) (fun c9 => absurd ((keep_port hrel (xs (i + 1)) (xs (i + 2)) 0).1) c9)
    refine W.widen (k := cells + 1) (n := slots + 6) (by omega) (by omega) ?_
    exact kk _ _ H locs ls ⟨o, hPx, hPm, hPo, hD, hS, (keep_port hrel (xs (i + 1)) (xs (i + 2)) 0).2⟩ hl
  · refine lv_aload_n hx hb dL_law_129 rfl (lv_at hl 2 rfl) ?_
    refine lv_aload_n hx hb dL_law_130 rfl (lv_at hl 1 rfl) ?_
    refine lv_iload hx hb dL_law_131 (lv_at hl 0 rfl) ?_
    refine lv_iconst (v := nI 1) hx hb dL_law_133 (by decide) ?_
    refine lv_iadd hx hb dL_law_134 ?_
    refine rd_topi (nI_add i 1) ?_
    refine ls_sld hx hb hX hbl hbA hS (by omega) (by omega) dL_law_135 ?_
    refine lv_aload_n hx hb dL_law_136 rfl (lv_at hl 1 rfl) ?_
    refine lv_iload hx hb dL_law_137 (lv_at hl 0 rfl) ?_
    refine lv_iconst (v := nI 2) hx hb dL_law_139 (by decide) ?_
    refine lv_iadd hx hb dL_law_140 ?_
    refine rd_topi (nI_add i 2) ?_
    refine ls_sld hx hb hX hbl hbA hS (by omega) (by omega) dL_law_141 ?_
    refine lv_aload_n hx hb dL_law_142 rfl (lv_at hl 1 rfl) ?_
    refine lv_iload hx hb dL_law_143 (lv_at hl 0 rfl) ?_
    refine lv_iconst (v := nI 3) hx hb dL_law_145 (by decide) ?_
    refine lv_iadd hx hb dL_law_146 ?_
    refine rd_topi (nI_add i 3) ?_
    refine ls_sld hx hb hX hbl hbA hS (by omega) (by omega) dL_law_147 ?_
    refine lv_if_eq (tgt := 155) hx hb dL_law_148 (by decide) (fun c9 => absurd c9 h3) (fun _ => ?_)
    refine lv_iconst (v := 1) hx hb dL_law_151 (by decide) ?_
    refine lv_goto (tgt := 156) hx hb dL_law_152 (by decide) ?_
    refine mu_callF (A := fun q => s.heap.size ≤ q) (H0 := s.heap) (wc := xW cA ax V) (wr := mW cA am M ++ oW cA ob o) (As := [.int (xs (i + 1)), .int (xs (i + 2)), .int 1]) (rest := []) (b := ax 0) (q0 := 0) (ci := 0) ⟨hx, hb, hml, hown, htl⟩ (cx_port l G cA ax V (xs (i + 1)) (xs (i + 2)) 1 h30 h60 (by decide)) (cwV 3 htl gL_law_X0_port rfl rfl rfl (by decide +kernel) ⟨Nat.le_of_ble_eq_true rfl, Nat.le_of_ble_eq_true rfl⟩) hK hPx (hPm.app hPo) hD hS rfl rfl rfl (fun _ _ => rfl) rfl hl.1 rfl (Nat.le_of_ble_eq_true rfl) dL_law_156 hf0 (fun u H locs hu hPx hPr hD hS => ?_)
    subst hu
    have hPm := va_Pl hPr
    have hPo := va_Pr hPr
    have hD := hD_xm hD
    refine lv_aload_n hx hb dL_law_159 rfl (lv_at hl 3 rfl) ?_
    refine lv_aload_n hx hb dL_law_160 rfl (lv_at hl 1 rfl) ?_
    refine lv_iload hx hb dL_law_161 (lv_at hl 0 rfl) ?_
    refine lv_iconst (v := nI 1) hx hb dL_law_163 (by decide) ?_
    refine lv_iadd hx hb dL_law_164 ?_
    refine rd_topi (nI_add i 1) ?_
    refine ls_sld hx hb hX hbl hbA hS (by omega) (by omega) dL_law_165 ?_
    refine lv_aload_n hx hb dL_law_166 rfl (lv_at hl 1 rfl) ?_
    refine lv_iload hx hb dL_law_167 (lv_at hl 0 rfl) ?_
    refine lv_iconst (v := nI 2) hx hb dL_law_169 (by decide) ?_
    refine lv_iadd hx hb dL_law_170 ?_
    refine rd_topi (nI_add i 2) ?_
    refine ls_sld hx hb hX hbl hbA hS (by omega) (by omega) dL_law_171 ?_
    refine lv_aload_n hx hb dL_law_172 rfl (lv_at hl 1 rfl) ?_
    refine lv_iload hx hb dL_law_173 (lv_at hl 0 rfl) ?_
    refine lv_iconst (v := nI 3) hx hb dL_law_175 (by decide) ?_
    refine lv_iadd hx hb dL_law_176 ?_
    refine rd_topi (nI_add i 3) ?_
    refine ls_sld hx hb hX hbl hbA hS (by omega) (by omega) dL_law_177 ?_
    refine lv_if_eq (tgt := 185) hx hb dL_law_178 (by decide) (fun c9 => absurd c9 h3) (fun _ => ?_)
    refine lv_iconst (v := 1) hx hb dL_law_181 (by decide) ?_
    refine lv_goto (tgt := 186) hx hb dL_law_182 (by decide) ?_
    refine mu_callF (A := fun q => s.heap.size ≤ q) (H0 := s.heap) (wc := mW cA am M) (wr := xW cA ax (xPort V (xs (i + 1)) (xs (i + 2)) 1).2 ++ oW cA ob o) (As := [.int (xs (i + 1)), .int (xs (i + 2)), .int 1]) (rest := [.int (xPort V (xs (i + 1)) (xs (i + 2)) 1).1]) (b := am 0) (q0 := 0) (ci := 1) ⟨hx, hb, hml, hown, hts⟩ (cm_port l G cA am M (xs (i + 1)) (xs (i + 2)) 1 hmo.1 hmo.2.1 (by decide)) (cwV 3 hts gL_law_M_port rfl rfl rfl (by decide +kernel) ⟨Nat.le_of_ble_eq_true rfl, Nat.le_of_ble_eq_true rfl⟩) hK hPm (hPx.app hPo) hD hS rfl rfl rfl (fun _ _ => rfl) rfl hl.1 rfl (Nat.le_of_ble_eq_true rfl) dL_law_186 hf0 (fun u H locs hu hPm hPr hD hS => ?_)
    subst hu
    have hPx := va_Pl hPr
    have hPo := va_Pr hPr
    have hD := hD_mx hD
    refine lv_icmp_eq (tgt := 625) hx hb dL_law_189 (by decide) (fun c9 => ?_) (fun c9 => absurd ((keep_port hrel (xs (i + 1)) (xs (i + 2)) 1).1) c9)
    refine W.widen (k := cells + 1) (n := slots + 6) (by omega) (by omega) ?_
    exact kk _ _ H locs ls ⟨o, hPx, hPm, hPo, hD, hS, (keep_port hrel (xs (i + 1)) (xs (i + 2)) 1).2⟩ hl
set_option maxHeartbeats 4000000 in
set_option maxRecDepth 100000 in
theorem lc_unit {p : Program} {e : Env} {s : State} {m : MethodId} {below : List Frame} {meth : Method} {c : Code} {l : Launch} (hstk : l.stackTraces = false) {b L i sa ob cells slots : Nat} {xs : Nat → Int32} {G : va_G} {cA : Nat → ClassId} {ax am : Nat → Nat} {V : XV} {M : MV} {H : Heap} {locs : List Loc} {ls : Array Slot} {Q : State → Prop} (C0 : lw_At p s m meth c b L xs) (hK : va_K G vwC2 (tT cA) s) (hZ : vxS sa s s.heap (fun q => s.heap.size ≤ q)) (hL : L ≤ 3584) (hi : i + 7 ≤ L) (hc : cells + 1 ≤ 1057) (hsl : slots + 6 ≤ 17133) (hI : LI s G cA ax am ob H locs V M) (hl : lv_has ls 7 [(4, .int (nI i)), (0, .ref b), (1, .ref (ax 0)), (2, .ref (am 0)), (3, .ref ob)])
    (kk : ∀ (V : XV) (M : MV) (H : Heap) (locs : List Loc) (ls : Array Slot), LI s G cA ax am ob H locs V M → lv_has ls 7 [(4, .int (nI i)), (0, .ref b), (1, .ref (ax 0)), (2, .ref (am 0)), (3, .ref ob)] → W p l e room_1 s m #[Value.ref b] below meth c H locs (cells + 1) (slots + 6) Q (F0 m 625 ls [])) : W p l e room_1 s m #[Value.ref b] below meth c H locs cells slots Q (F0 m 194 ls []) := by
  obtain ⟨hx, hb, hr, hml, hown0, hts, hX, hbl, hlocks, hgv⟩ := id C0
  have hown : s.vm.findClass RL = some m.cls := hown0
  have htl : ∀ w ∈ wsL_law, w.before #[Value.ref b] s = true := fun w h => hts w (wsL_law_in w h)
  have hbA : ¬ s.heap.size ≤ b := Nat.not_le.mpr hbl
  obtain ⟨o, hPx, hPm, hPo, hD, hS, hrel⟩ := hI
  have h30 : xnp V ≤ 30 := hrel.1.1.2.2.1
  have h60 : xnq V ≤ 60 := hrel.1.1.2.2.2
  have hxo := rel_xOK hrel.1
  have hmo := rel_mOK hrel.1
  have hf0 : cells ≤ 1057 ∧ slots ≤ 17133 := ⟨by omega, by omega⟩
  refine lv_aload_n hx hb dL_law_194 rfl (lv_at hl 2 rfl) ?_
  refine lv_aload_n hx hb dL_law_195 rfl (lv_at hl 1 rfl) ?_
  refine lv_iload hx hb dL_law_196 (lv_at hl 0 rfl) ?_
  refine lv_iconst (v := nI 1) hx hb dL_law_198 (by decide) ?_
  refine lv_iadd hx hb dL_law_199 ?_
  refine rd_topi (nI_add i 1) ?_
  refine ls_sld hx hb hX hbl hbA hS (by omega) (by omega) dL_law_200 ?_
  refine lv_aload_n hx hb dL_law_201 rfl (lv_at hl 1 rfl) ?_
  refine lv_iload hx hb dL_law_202 (lv_at hl 0 rfl) ?_
  refine lv_iconst (v := nI 2) hx hb dL_law_204 (by decide) ?_
  refine lv_iadd hx hb dL_law_205 ?_
  refine rd_topi (nI_add i 2) ?_
  refine ls_sld hx hb hX hbl hbA hS (by omega) (by omega) dL_law_206 ?_
  refine lv_aload_n hx hb dL_law_207 rfl (lv_at hl 1 rfl) ?_
  refine lv_iload hx hb dL_law_208 (lv_at hl 0 rfl) ?_
  refine lv_iconst (v := nI 3) hx hb dL_law_210 (by decide) ?_
  refine lv_iadd hx hb dL_law_211 ?_
  refine rd_topi (nI_add i 3) ?_
  refine ls_sld hx hb hX hbl hbA hS (by omega) (by omega) dL_law_212 ?_
  refine lv_i2l hx hb dL_law_213 rfl ?_
  refine lv_bipush (v := 32) hx hb dL_law_214 (by decide) ?_
  refine lv_lshl hx hb dL_law_216 rfl ?_
  refine lv_aload_n hx hb dL_law_217 rfl (lv_at hl 1 rfl) ?_
  refine lv_iload hx hb dL_law_218 (lv_at hl 0 rfl) ?_
  refine lv_iconst (v := nI 4) hx hb dL_law_220 (by decide) ?_
  refine lv_iadd hx hb dL_law_221 ?_
  refine rd_topi (nI_add i 4) ?_
  refine ls_sld hx hb hX hbl hbA hS (by omega) (by omega) dL_law_222 ?_
  refine lv_i2l hx hb dL_law_223 rfl ?_
  refine lv_ldc2 (v := 4294967295) hx hb hown (hts (.constantLong RL 29 4294967295) (by decide +kernel)) dL_law_224 ?_
  refine lv_land hx hb dL_law_227 ?_
  refine lv_lor hx hb dL_law_228 ?_
  refine lv_topl (fun y1 ey1 => ?_)
  refine lv_aload_n hx hb dL_law_229 rfl (lv_at hl 1 rfl) ?_
  refine lv_iload hx hb dL_law_230 (lv_at hl 0 rfl) ?_
  refine lv_iconst (v := nI 5) hx hb dL_law_232 (by decide) ?_
  refine lv_iadd hx hb dL_law_233 ?_
  refine rd_topi (nI_add i 5) ?_
  refine ls_sld hx hb hX hbl hbA hS (by omega) (by omega) dL_law_234 ?_
  refine lv_i2l hx hb dL_law_235 rfl ?_
  refine lv_bipush (v := 32) hx hb dL_law_236 (by decide) ?_
  refine lv_lshl hx hb dL_law_238 rfl ?_
  refine lv_aload_n hx hb dL_law_239 rfl (lv_at hl 1 rfl) ?_
  refine lv_iload hx hb dL_law_240 (lv_at hl 0 rfl) ?_
  refine lv_bipush (v := nI 6) hx hb dL_law_242 (by decide) ?_
  refine lv_iadd hx hb dL_law_244 ?_
  refine rd_topi (nI_add i 6) ?_
  refine ls_sld hx hb hX hbl hbA hS (by omega) (by omega) dL_law_245 ?_
  refine lv_i2l hx hb dL_law_246 rfl ?_
  refine lv_ldc2 (v := 4294967295) hx hb hown (hts (.constantLong RL 29 4294967295) (by decide +kernel)) dL_law_247 ?_
  refine lv_land hx hb dL_law_250 ?_
  refine lv_lor hx hb dL_law_251 ?_
  refine lv_topl (fun y2 ey2 => ?_)
  refine mu_callF (A := fun q => s.heap.size ≤ q) (H0 := s.heap) (wc := xW cA ax V) (wr := mW cA am M ++ oW cA ob o) (As := [.int (xs (i + 1)), .int (xs (i + 2)), .long y1, .long y2]) (rest := []) (b := ax 0) (q0 := 0) (ci := 0) ⟨hx, hb, hml, hown, htl⟩ (cx_unit l G cA ax V (xs (i + 1)) (xs (i + 2)) y1 y2 h60) (cwV 4 htl gL_law_X0_unit rfl rfl rfl (by decide +kernel) ⟨Nat.le_of_ble_eq_true rfl, Nat.le_of_ble_eq_true rfl⟩) hK hPx (hPm.app hPo) hD hS rfl rfl rfl (fun _ _ => rfl) rfl hl.1 rfl (Nat.le_of_ble_eq_true rfl) dL_law_252 hf0 (fun u H locs hu hPx hPr hD hS => ?_)
  subst hu
  have hPm := va_Pl hPr
  have hPo := va_Pr hPr
  have hD := hD_xm hD
  refine lv_aload_n hx hb dL_law_255 rfl (lv_at hl 3 rfl) ?_
  refine lv_aload_n hx hb dL_law_256 rfl (lv_at hl 1 rfl) ?_
  refine lv_iload hx hb dL_law_257 (lv_at hl 0 rfl) ?_
  refine lv_iconst (v := nI 1) hx hb dL_law_259 (by decide) ?_
  refine lv_iadd hx hb dL_law_260 ?_
  refine rd_topi (nI_add i 1) ?_
  refine ls_sld hx hb hX hbl hbA hS (by omega) (by omega) dL_law_261 ?_
  refine lv_aload_n hx hb dL_law_262 rfl (lv_at hl 1 rfl) ?_
  refine lv_iload hx hb dL_law_263 (lv_at hl 0 rfl) ?_
  refine lv_iconst (v := nI 2) hx hb dL_law_265 (by decide) ?_
  refine lv_iadd hx hb dL_law_266 ?_
  refine rd_topi (nI_add i 2) ?_
  refine ls_sld hx hb hX hbl hbA hS (by omega) (by omega) dL_law_267 ?_
  refine lv_aload_n hx hb dL_law_268 rfl (lv_at hl 1 rfl) ?_
  refine lv_iload hx hb dL_law_269 (lv_at hl 0 rfl) ?_
  refine lv_iconst (v := nI 3) hx hb dL_law_271 (by decide) ?_
  refine lv_iadd hx hb dL_law_272 ?_
  refine rd_topi (nI_add i 3) ?_
  refine ls_sld hx hb hX hbl hbA hS (by omega) (by omega) dL_law_273 ?_
  refine lv_i2l hx hb dL_law_274 rfl ?_
  refine lv_bipush (v := 32) hx hb dL_law_275 (by decide) ?_
  refine lv_lshl hx hb dL_law_277 rfl ?_
  refine lv_aload_n hx hb dL_law_278 rfl (lv_at hl 1 rfl) ?_
  refine lv_iload hx hb dL_law_279 (lv_at hl 0 rfl) ?_
  refine lv_iconst (v := nI 4) hx hb dL_law_281 (by decide) ?_
  refine lv_iadd hx hb dL_law_282 ?_
  refine rd_topi (nI_add i 4) ?_
  refine ls_sld hx hb hX hbl hbA hS (by omega) (by omega) dL_law_283 ?_
  refine lv_i2l hx hb dL_law_284 rfl ?_
  refine lv_ldc2 (v := 4294967295) hx hb hown (hts (.constantLong RL 29 4294967295) (by decide +kernel)) dL_law_285 ?_
  refine lv_land hx hb dL_law_288 ?_
  refine lv_lor hx hb dL_law_289 ?_
  refine lv_topl (fun z1 ez1 => ?_)
  have qz1 : z1 = y1 := ez1.trans ey1.symm
  rw [qz1]
  refine lv_aload_n hx hb dL_law_290 rfl (lv_at hl 1 rfl) ?_
  refine lv_iload hx hb dL_law_291 (lv_at hl 0 rfl) ?_
  refine lv_iconst (v := nI 5) hx hb dL_law_293 (by decide) ?_
  refine lv_iadd hx hb dL_law_294 ?_
  refine rd_topi (nI_add i 5) ?_
  refine ls_sld hx hb hX hbl hbA hS (by omega) (by omega) dL_law_295 ?_
  refine lv_i2l hx hb dL_law_296 rfl ?_
  refine lv_bipush (v := 32) hx hb dL_law_297 (by decide) ?_
  refine lv_lshl hx hb dL_law_299 rfl ?_
  refine lv_aload_n hx hb dL_law_300 rfl (lv_at hl 1 rfl) ?_
  refine lv_iload hx hb dL_law_301 (lv_at hl 0 rfl) ?_
  refine lv_bipush (v := nI 6) hx hb dL_law_303 (by decide) ?_
  refine lv_iadd hx hb dL_law_305 ?_
  refine rd_topi (nI_add i 6) ?_
  refine ls_sld hx hb hX hbl hbA hS (by omega) (by omega) dL_law_306 ?_
  refine lv_i2l hx hb dL_law_307 rfl ?_
  refine lv_ldc2 (v := 4294967295) hx hb hown (hts (.constantLong RL 29 4294967295) (by decide +kernel)) dL_law_308 ?_
  refine lv_land hx hb dL_law_311 ?_
  refine lv_lor hx hb dL_law_312 ?_
  refine lv_topl (fun z2 ez2 => ?_)
  have qz2 : z2 = y2 := ez2.trans ey2.symm
  rw [qz2]
  refine mu_callF (A := fun q => s.heap.size ≤ q) (H0 := s.heap) (wc := mW cA am M) (wr := xW cA ax (xUnit V (xs (i + 1)) (xs (i + 2)) y1 y2).2 ++ oW cA ob o) (As := [.int (xs (i + 1)), .int (xs (i + 2)), .long y1, .long y2]) (rest := [.int (xUnit V (xs (i + 1)) (xs (i + 2)) y1 y2).1]) (b := am 0) (q0 := 0) (ci := 1) ⟨hx, hb, hml, hown, hts⟩ (cm_unit l G cA am M (xs (i + 1)) (xs (i + 2)) y1 y2 hmo.2.1) (cwV 4 hts gL_law_M_unit rfl rfl rfl (by decide +kernel) ⟨Nat.le_of_ble_eq_true rfl, Nat.le_of_ble_eq_true rfl⟩) hK hPm (hPx.app hPo) hD hS rfl rfl rfl (fun _ _ => rfl) rfl hl.1 rfl (Nat.le_of_ble_eq_true rfl) dL_law_313 hf0 (fun u H locs hu hPm hPr hD hS => ?_)
  subst hu
  have hPx := va_Pl hPr
  have hPo := va_Pr hPr
  have hD := hD_mx hD
  refine lv_icmp_eq (tgt := 625) hx hb dL_law_316 (by decide) (fun c9 => ?_) (fun c9 => absurd ((keep_unit hrel (xs (i + 1)) (xs (i + 2)) y1 y2).1) c9)
  refine W.widen (k := cells + 1) (n := slots + 6) (by omega) (by omega) ?_
  exact kk _ _ H locs ls ⟨o, hPx, hPm, hPo, hD, hS, (keep_unit hrel (xs (i + 1)) (xs (i + 2)) y1 y2).2⟩ hl
set_option maxHeartbeats 4000000 in
set_option maxRecDepth 100000 in
theorem lc_connect {p : Program} {e : Env} {s : State} {m : MethodId} {below : List Frame} {meth : Method} {c : Code} {l : Launch} (hstk : l.stackTraces = false) {b L i sa ob cells slots : Nat} {xs : Nat → Int32} {G : va_G} {cA : Nat → ClassId} {ax am : Nat → Nat} {V : XV} {M : MV} {H : Heap} {locs : List Loc} {ls : Array Slot} {Q : State → Prop} (C0 : lw_At p s m meth c b L xs) (hK : va_K G vwC2 (tT cA) s) (hZ : vxS sa s s.heap (fun q => s.heap.size ≤ q)) (hL : L ≤ 3584) (hi : i + 7 ≤ L) (hc : cells + 1 ≤ 1057) (hsl : slots + 6 ≤ 17133) (hI : LI s G cA ax am ob H locs V M) (hl : lv_has ls 7 [(4, .int (nI i)), (0, .ref b), (1, .ref (ax 0)), (2, .ref (am 0)), (3, .ref ob)])
    (kk : ∀ (V : XV) (M : MV) (H : Heap) (locs : List Loc) (ls : Array Slot), LI s G cA ax am ob H locs V M → lv_has ls 7 [(4, .int (nI i)), (0, .ref b), (1, .ref (ax 0)), (2, .ref (am 0)), (3, .ref ob)] → W p l e room_1 s m #[Value.ref b] below meth c H locs (cells + 1) (slots + 6) Q (F0 m 625 ls [])) : W p l e room_1 s m #[Value.ref b] below meth c H locs cells slots Q (F0 m 321 ls []) := by
  obtain ⟨hx, hb, hr, hml, hown0, hts, hX, hbl, hlocks, hgv⟩ := id C0
  have hown : s.vm.findClass RL = some m.cls := hown0
  have htl : ∀ w ∈ wsL_law, w.before #[Value.ref b] s = true := fun w h => hts w (wsL_law_in w h)
  have hbA : ¬ s.heap.size ≤ b := Nat.not_le.mpr hbl
  obtain ⟨o, hPx, hPm, hPo, hD, hS, hrel⟩ := hI
  have h30 : xnp V ≤ 30 := hrel.1.1.2.2.1
  have h60 : xnq V ≤ 60 := hrel.1.1.2.2.2
  have hxo := rel_xOK hrel.1
  have hmo := rel_mOK hrel.1
  have hf0 : cells ≤ 1057 ∧ slots ≤ 17133 := ⟨by omega, by omega⟩
  refine lv_aload_n hx hb dL_law_321 rfl (lv_at hl 2 rfl) ?_
  refine lv_aload_n hx hb dL_law_322 rfl (lv_at hl 1 rfl) ?_
  refine lv_iload hx hb dL_law_323 (lv_at hl 0 rfl) ?_
  refine lv_iconst (v := nI 1) hx hb dL_law_325 (by decide) ?_
  refine lv_iadd hx hb dL_law_326 ?_
  refine rd_topi (nI_add i 1) ?_
  refine ls_sld hx hb hX hbl hbA hS (by omega) (by omega) dL_law_327 ?_
  refine lv_aload_n hx hb dL_law_328 rfl (lv_at hl 1 rfl) ?_
  refine lv_iload hx hb dL_law_329 (lv_at hl 0 rfl) ?_
  refine lv_iconst (v := nI 2) hx hb dL_law_331 (by decide) ?_
  refine lv_iadd hx hb dL_law_332 ?_
  refine rd_topi (nI_add i 2) ?_
  refine ls_sld hx hb hX hbl hbA hS (by omega) (by omega) dL_law_333 ?_
  refine mu_callF (A := fun q => s.heap.size ≤ q) (H0 := s.heap) (wc := xW cA ax V) (wr := mW cA am M ++ oW cA ob o) (As := [.int (xs (i + 1)), .int (xs (i + 2))]) (rest := []) (b := ax 0) (q0 := 0) (ci := 0) ⟨hx, hb, hml, hown, htl⟩ (cx_connect l G cA ax V (xs (i + 1)) (xs (i + 2)) hxo) (cwV 2 htl gL_law_X0_connect rfl rfl rfl (by decide +kernel) ⟨Nat.le_of_ble_eq_true rfl, Nat.le_of_ble_eq_true rfl⟩) hK hPx (hPm.app hPo) hD hS rfl rfl rfl (fun _ _ => rfl) rfl hl.1 rfl (Nat.le_of_ble_eq_true rfl) dL_law_334 hf0 (fun u H locs hu hPx hPr hD hS => ?_)
  subst hu
  have hPm := va_Pl hPr
  have hPo := va_Pr hPr
  have hD := hD_xm hD
  refine lv_aload_n hx hb dL_law_337 rfl (lv_at hl 3 rfl) ?_
  refine lv_aload_n hx hb dL_law_338 rfl (lv_at hl 1 rfl) ?_
  refine lv_iload hx hb dL_law_339 (lv_at hl 0 rfl) ?_
  refine lv_iconst (v := nI 1) hx hb dL_law_341 (by decide) ?_
  refine lv_iadd hx hb dL_law_342 ?_
  refine rd_topi (nI_add i 1) ?_
  refine ls_sld hx hb hX hbl hbA hS (by omega) (by omega) dL_law_343 ?_
  refine lv_aload_n hx hb dL_law_344 rfl (lv_at hl 1 rfl) ?_
  refine lv_iload hx hb dL_law_345 (lv_at hl 0 rfl) ?_
  refine lv_iconst (v := nI 2) hx hb dL_law_347 (by decide) ?_
  refine lv_iadd hx hb dL_law_348 ?_
  refine rd_topi (nI_add i 2) ?_
  refine ls_sld hx hb hX hbl hbA hS (by omega) (by omega) dL_law_349 ?_
  refine mu_callF (A := fun q => s.heap.size ≤ q) (H0 := s.heap) (wc := mW cA am M) (wr := xW cA ax (xConn V (xs (i + 1)) (xs (i + 2))).2 ++ oW cA ob o) (As := [.int (xs (i + 1)), .int (xs (i + 2))]) (rest := [.int (xConn V (xs (i + 1)) (xs (i + 2))).1]) (b := am 0) (q0 := 0) (ci := 1) ⟨hx, hb, hml, hown, hts⟩ (cm_connect l G cA am M (xs (i + 1)) (xs (i + 2)) hmo) (cwV 2 hts gL_law_M_connect rfl rfl rfl (by decide +kernel) ⟨Nat.le_of_ble_eq_true rfl, Nat.le_of_ble_eq_true rfl⟩) hK hPm (hPx.app hPo) hD hS rfl rfl rfl (fun _ _ => rfl) rfl hl.1 rfl (Nat.le_of_ble_eq_true rfl) dL_law_350 hf0 (fun u H locs hu hPm hPr hD hS => ?_)
  subst hu
  have hPx := va_Pl hPr
  have hPo := va_Pr hPr
  have hD := hD_mx hD
  refine lv_icmp_eq (tgt := 625) hx hb dL_law_353 (by decide) (fun c9 => ?_) (fun c9 => absurd ((keep_conn hrel (xs (i + 1)) (xs (i + 2))).1) c9)
  refine W.widen (k := cells + 1) (n := slots + 6) (by omega) (by omega) ?_
  exact kk _ _ H locs ls ⟨o, hPx, hPm, hPo, hD, hS, (keep_conn hrel (xs (i + 1)) (xs (i + 2))).2⟩ hl
set_option maxHeartbeats 4000000 in
set_option maxRecDepth 100000 in
theorem lc_flatten {p : Program} {e : Env} {s : State} {m : MethodId} {below : List Frame} {meth : Method} {c : Code} {l : Launch} (hstk : l.stackTraces = false) {b L i sa ob cells slots : Nat} {xs : Nat → Int32} {G : va_G} {cA : Nat → ClassId} {ax am : Nat → Nat} {V : XV} {M : MV} {H : Heap} {locs : List Loc} {ls : Array Slot} {Q : State → Prop} (C0 : lw_At p s m meth c b L xs) (hK : va_K G vwC2 (tT cA) s) (hZ : vxS sa s s.heap (fun q => s.heap.size ≤ q)) (hL : L ≤ 3584) (hi : i + 7 ≤ L) (hc : cells + 1 ≤ 1057) (hsl : slots + 6 ≤ 17133) (hI : LI s G cA ax am ob H locs V M) (hl : lv_has ls 7 [(4, .int (nI i)), (0, .ref b), (1, .ref (ax 0)), (2, .ref (am 0)), (3, .ref ob)])
    (kk : ∀ (V : XV) (M : MV) (H : Heap) (locs : List Loc) (ls : Array Slot), LI s G cA ax am ob H locs V M → lv_has ls 7 [(4, .int (nI i)), (0, .ref b), (1, .ref (ax 0)), (2, .ref (am 0)), (3, .ref ob)] → W p l e room_1 s m #[Value.ref b] below meth c H locs (cells + 1) (slots + 6) Q (F0 m 625 ls [])) : W p l e room_1 s m #[Value.ref b] below meth c H locs cells slots Q (F0 m 358 ls []) := by
  obtain ⟨hx, hb, hr, hml, hown0, hts, hX, hbl, hlocks, hgv⟩ := id C0
  have hown : s.vm.findClass RL = some m.cls := hown0
  have htl : ∀ w ∈ wsL_law, w.before #[Value.ref b] s = true := fun w h => hts w (wsL_law_in w h)
  have hbA : ¬ s.heap.size ≤ b := Nat.not_le.mpr hbl
  obtain ⟨o, hPx, hPm, hPo, hD, hS, hrel⟩ := hI
  have h30 : xnp V ≤ 30 := hrel.1.1.2.2.1
  have h60 : xnq V ≤ 60 := hrel.1.1.2.2.2
  have hxo := rel_xOK hrel.1
  have hmo := rel_mOK hrel.1
  have hf0 : cells ≤ 1057 ∧ slots ≤ 17133 := ⟨by omega, by omega⟩
  refine lv_aload_n hx hb dL_law_358 rfl (lv_at hl 2 rfl) ?_
  refine rd_callV (ws := xW cA ax V) (As := []) (rest := []) (b := ax 0) (q0 := 0) (ci := 0) ⟨hx, hb, hml, hown, htl⟩ (cx_flatten l G cA ax V h60) (cwV 0 htl gL_law_X0_flatten rfl rfl rfl (by decide +kernel) ⟨Nat.le_of_ble_eq_true rfl, Nat.le_of_ble_eq_true rfl⟩) hK hPx rfl rfl rfl rfl hl.1 rfl (Nat.le_of_ble_eq_true rfl) dL_law_359 hf0 ?_
  refine lv_aload_n hx hb dL_law_362 rfl (lv_at hl 3 rfl) ?_
  refine mu_callF (A := fun q => s.heap.size ≤ q) (H0 := s.heap) (wc := mW cA am M) (wr := xW cA ax V ++ oW cA ob o) (As := []) (rest := [.int (nI (xAll V))]) (b := am 0) (q0 := 0) (ci := 1) ⟨hx, hb, hml, hown, hts⟩ (cm_flatten l G cA am M hmo.1 hmo.2.1 hmo.2.2.2.2 hrel.2) (cwV 0 hts gL_law_M_flatten rfl rfl rfl (by decide +kernel) ⟨Nat.le_of_ble_eq_true rfl, Nat.le_of_ble_eq_true rfl⟩) hK hPm (hPx.app hPo) (hD_xm hD) hS rfl rfl rfl (fun _ _ => rfl) rfl hl.1 rfl (Nat.le_of_ble_eq_true rfl) dL_law_363 hf0 (fun u H locs hu hPm hPr hD hS => ?_)
  have hPx := va_Pl hPr
  have hPo := va_Pr hPr
  have hD := hD_mx hD
  refine lv_icmp_eq (tgt := 625) hx hb dL_law_366 (by decide) (fun c9 => ?_) (fun c9 => absurd (by rw [rel_all hrel.1]) c9)
  refine W.widen (k := cells + 1) (n := slots + 6) (by omega) (by omega) ?_
  exact kk _ _ H locs ls ⟨o, hPx, hPm, hPo, hD, hS, rel_up hrel hu⟩ hl
set_option maxHeartbeats 4000000 in
set_option maxRecDepth 100000 in
theorem lc_check {p : Program} {e : Env} {s : State} {m : MethodId} {below : List Frame} {meth : Method} {c : Code} {l : Launch} (hstk : l.stackTraces = false) {b L i sa ob cells slots : Nat} {xs : Nat → Int32} {G : va_G} {cA : Nat → ClassId} {ax am : Nat → Nat} {V : XV} {M : MV} {H : Heap} {locs : List Loc} {ls : Array Slot} {Q : State → Prop} (C0 : lw_At p s m meth c b L xs) (hK : va_K G vwC2 (tT cA) s) (hZ : vxS sa s s.heap (fun q => s.heap.size ≤ q)) (hL : L ≤ 3584) (hi : i + 7 ≤ L) (hc : cells + 1 ≤ 1057) (hsl : slots + 6 ≤ 17133) (hI : LI s G cA ax am ob H locs V M) (hl : lv_has ls 7 [(4, .int (nI i)), (0, .ref b), (1, .ref (ax 0)), (2, .ref (am 0)), (3, .ref ob)])
    (kk : ∀ (V : XV) (M : MV) (H : Heap) (locs : List Loc) (ls : Array Slot), LI s G cA ax am ob H locs V M → lv_has ls 7 [(4, .int (nI i)), (0, .ref b), (1, .ref (ax 0)), (2, .ref (am 0)), (3, .ref ob)] → W p l e room_1 s m #[Value.ref b] below meth c H locs (cells + 1) (slots + 6) Q (F0 m 625 ls [])) : W p l e room_1 s m #[Value.ref b] below meth c H locs cells slots Q (F0 m 439 ls []) := by
  obtain ⟨hx, hb, hr, hml, hown0, hts, hX, hbl, hlocks, hgv⟩ := id C0
  have hown : s.vm.findClass RL = some m.cls := hown0
  have htl : ∀ w ∈ wsL_law, w.before #[Value.ref b] s = true := fun w h => hts w (wsL_law_in w h)
  have hbA : ¬ s.heap.size ≤ b := Nat.not_le.mpr hbl
  obtain ⟨o, hPx, hPm, hPo, hD, hS, hrel⟩ := hI
  have h30 : xnp V ≤ 30 := hrel.1.1.2.2.1
  have h60 : xnq V ≤ 60 := hrel.1.1.2.2.2
  have hxo := rel_xOK hrel.1
  have hmo := rel_mOK hrel.1
  have hf0 : cells ≤ 1057 ∧ slots ≤ 17133 := ⟨by omega, by omega⟩
  refine lv_aload_n hx hb dL_law_439 rfl (lv_at hl 2 rfl) ?_
  refine rd_callV (ws := xW cA ax V) (As := []) (rest := []) (b := ax 0) (q0 := 0) (ci := 0) ⟨hx, hb, hml, hown, htl⟩ (cx_check l G cA ax V h60) (cwV 0 htl gL_law_X0_check rfl rfl rfl (by decide +kernel) ⟨Nat.le_of_ble_eq_true rfl, Nat.le_of_ble_eq_true rfl⟩) hK hPx rfl rfl rfl rfl hl.1 rfl (Nat.le_of_ble_eq_true rfl) dL_law_440 hf0 ?_
  refine lv_aload_n hx hb dL_law_443 rfl (lv_at hl 3 rfl) ?_
  refine mu_callF (A := fun q => s.heap.size ≤ q) (H0 := s.heap) (wc := mW cA am M) (wr := xW cA ax V ++ oW cA ob o) (As := []) (rest := [.int (nI (xChk V))]) (b := am 0) (q0 := 0) (ci := 1) ⟨hx, hb, hml, hown, hts⟩ (cm_check l G cA am M hmo.1 hmo.2.1 hmo.2.2.2.2 hrel.2 (rel_dv hrel.1)) (cwV 0 hts gL_law_M_check rfl rfl rfl (by decide +kernel) ⟨Nat.le_of_ble_eq_true rfl, Nat.le_of_ble_eq_true rfl⟩) hK hPm (hPx.app hPo) (hD_xm hD) hS rfl rfl rfl (fun _ _ => rfl) rfl hl.1 rfl (Nat.le_of_ble_eq_true rfl) dL_law_444 hf0 (fun u H locs hu hPm hPr hD hS => ?_)
  have hPx := va_Pl hPr
  have hPo := va_Pr hPr
  have hD := hD_mx hD
  refine lv_icmp_eq (tgt := 625) hx hb dL_law_447 (by decide) (fun c9 => ?_) (fun c9 => absurd (by rw [rel_chk hrel.1]) c9)
  refine W.widen (k := cells + 1) (n := slots + 6) (by omega) (by omega) ?_
  exact kk _ _ H locs ls ⟨o, hPx, hPm, hPo, hD, hS, rel_up hrel hu⟩ hl
set_option maxHeartbeats 4000000 in
set_option maxRecDepth 100000 in
theorem lc_manager {p : Program} {e : Env} {s : State} {m : MethodId} {below : List Frame} {meth : Method} {c : Code} {l : Launch} (hstk : l.stackTraces = false) {b L i sa ob cells slots : Nat} {xs : Nat → Int32} {G : va_G} {cA : Nat → ClassId} {ax am : Nat → Nat} {V : XV} {M : MV} {H : Heap} {locs : List Loc} {ls : Array Slot} {Q : State → Prop} (C0 : lw_At p s m meth c b L xs) (hK : va_K G vwC2 (tT cA) s) (hZ : vxS sa s s.heap (fun q => s.heap.size ≤ q)) (hL : L ≤ 3584) (hi : i + 7 ≤ L) (hc : cells + 1 ≤ 1057) (hsl : slots + 6 ≤ 17133) (hI : LI s G cA ax am ob H locs V M) (hl : lv_has ls 7 [(4, .int (nI i)), (0, .ref b), (1, .ref (ax 0)), (2, .ref (am 0)), (3, .ref ob)])
    (kk : ∀ (V : XV) (M : MV) (H : Heap) (locs : List Loc) (ls : Array Slot), LI s G cA ax am ob H locs V M → lv_has ls 7 [(4, .int (nI i)), (0, .ref b), (1, .ref (ax 0)), (2, .ref (am 0)), (3, .ref ob)] → W p l e room_1 s m #[Value.ref b] below meth c H locs (cells + 1) (slots + 6) Q (F0 m 625 ls [])) : W p l e room_1 s m #[Value.ref b] below meth c H locs cells slots Q (F0 m 452 ls []) := by
  obtain ⟨hx, hb, hr, hml, hown0, hts, hX, hbl, hlocks, hgv⟩ := id C0
  have hown : s.vm.findClass RL = some m.cls := hown0
  have htl : ∀ w ∈ wsL_law, w.before #[Value.ref b] s = true := fun w h => hts w (wsL_law_in w h)
  have hbA : ¬ s.heap.size ≤ b := Nat.not_le.mpr hbl
  obtain ⟨o, hPx, hPm, hPo, hD, hS, hrel⟩ := hI
  have h30 : xnp V ≤ 30 := hrel.1.1.2.2.1
  have h60 : xnq V ≤ 60 := hrel.1.1.2.2.2
  have hxo := rel_xOK hrel.1
  have hmo := rel_mOK hrel.1
  have hf0 : cells ≤ 1057 ∧ slots ≤ 17133 := ⟨by omega, by omega⟩
  refine lv_aload_n hx hb dL_law_452 rfl (lv_at hl 2 rfl) ?_
  refine lv_aload_n hx hb dL_law_453 rfl (lv_at hl 1 rfl) ?_
  refine lv_iload hx hb dL_law_454 (lv_at hl 0 rfl) ?_
  refine lv_iconst (v := nI 1) hx hb dL_law_456 (by decide) ?_
  refine lv_iadd hx hb dL_law_457 ?_
  refine rd_topi (nI_add i 1) ?_
  refine ls_sld hx hb hX hbl hbA hS (by omega) (by omega) dL_law_458 ?_
  refine lv_aload_n hx hb dL_law_459 rfl (lv_at hl 1 rfl) ?_
  refine lv_iload hx hb dL_law_460 (lv_at hl 0 rfl) ?_
  refine lv_iconst (v := nI 2) hx hb dL_law_462 (by decide) ?_
  refine lv_iadd hx hb dL_law_463 ?_
  refine rd_topi (nI_add i 2) ?_
  refine ls_sld hx hb hX hbl hbA hS (by omega) (by omega) dL_law_464 ?_
  refine mu_callF (A := fun q => s.heap.size ≤ q) (H0 := s.heap) (wc := xW cA ax V) (wr := mW cA am M ++ oW cA ob o) (As := [.int (xs (i + 1)), .int (xs (i + 2))]) (rest := []) (b := ax 0) (q0 := 0) (ci := 0) ⟨hx, hb, hml, hown, htl⟩ (cx_manager l G cA ax V (xs (i + 1)) (xs (i + 2)) h30) (cwV 2 htl gL_law_X0_manager rfl rfl rfl (by decide +kernel) ⟨Nat.le_of_ble_eq_true rfl, Nat.le_of_ble_eq_true rfl⟩) hK hPx (hPm.app hPo) hD hS rfl rfl rfl (fun _ _ => rfl) rfl hl.1 rfl (Nat.le_of_ble_eq_true rfl) dL_law_465 hf0 (fun u H locs hu hPx hPr hD hS => ?_)
  subst hu
  have hPm := va_Pl hPr
  have hPo := va_Pr hPr
  have hD := hD_xm hD
  refine lv_aload_n hx hb dL_law_468 rfl (lv_at hl 3 rfl) ?_
  refine lv_aload_n hx hb dL_law_469 rfl (lv_at hl 1 rfl) ?_
  refine lv_iload hx hb dL_law_470 (lv_at hl 0 rfl) ?_
  refine lv_iconst (v := nI 1) hx hb dL_law_472 (by decide) ?_
  refine lv_iadd hx hb dL_law_473 ?_
  refine rd_topi (nI_add i 1) ?_
  refine ls_sld hx hb hX hbl hbA hS (by omega) (by omega) dL_law_474 ?_
  refine lv_aload_n hx hb dL_law_475 rfl (lv_at hl 1 rfl) ?_
  refine lv_iload hx hb dL_law_476 (lv_at hl 0 rfl) ?_
  refine lv_iconst (v := nI 2) hx hb dL_law_478 (by decide) ?_
  refine lv_iadd hx hb dL_law_479 ?_
  refine rd_topi (nI_add i 2) ?_
  refine ls_sld hx hb hX hbl hbA hS (by omega) (by omega) dL_law_480 ?_
  refine mu_callF (A := fun q => s.heap.size ≤ q) (H0 := s.heap) (wc := mW cA am M) (wr := xW cA ax (xMan V (xs (i + 1)) (xs (i + 2))).2 ++ oW cA ob o) (As := [.int (xs (i + 1)), .int (xs (i + 2))]) (rest := [.int (xMan V (xs (i + 1)) (xs (i + 2))).1]) (b := am 0) (q0 := 0) (ci := 1) ⟨hx, hb, hml, hown, hts⟩ (cm_manager l G cA am M (xs (i + 1)) (xs (i + 2)) hmo.1) (cwV 2 hts gL_law_M_manager rfl rfl rfl (by decide +kernel) ⟨Nat.le_of_ble_eq_true rfl, Nat.le_of_ble_eq_true rfl⟩) hK hPm (hPx.app hPo) hD hS rfl rfl rfl (fun _ _ => rfl) rfl hl.1 rfl (Nat.le_of_ble_eq_true rfl) dL_law_481 hf0 (fun u H locs hu hPm hPr hD hS => ?_)
  subst hu
  have hPx := va_Pl hPr
  have hPo := va_Pr hPr
  have hD := hD_mx hD
  refine lv_icmp_eq (tgt := 625) hx hb dL_law_484 (by decide) (fun c9 => ?_) (fun c9 => absurd ((keep_man hrel (xs (i + 1)) (xs (i + 2))).1) c9)
  refine W.widen (k := cells + 1) (n := slots + 6) (by omega) (by omega) ?_
  exact kk _ _ H locs ls ⟨o, hPx, hPm, hPo, hD, hS, (keep_man hrel (xs (i + 1)) (xs (i + 2))).2⟩ hl
set_option maxHeartbeats 4000000 in
set_option maxRecDepth 100000 in
theorem lc_fallback {p : Program} {e : Env} {s : State} {m : MethodId} {below : List Frame} {meth : Method} {c : Code} {l : Launch} (hstk : l.stackTraces = false) {b L i sa ob cells slots : Nat} {xs : Nat → Int32} {G : va_G} {cA : Nat → ClassId} {ax am : Nat → Nat} {V : XV} {M : MV} {H : Heap} {locs : List Loc} {ls : Array Slot} {Q : State → Prop} (C0 : lw_At p s m meth c b L xs) (hK : va_K G vwC2 (tT cA) s) (hZ : vxS sa s s.heap (fun q => s.heap.size ≤ q)) (hL : L ≤ 3584) (hi : i + 7 ≤ L) (hc : cells + 1 ≤ 1057) (hsl : slots + 6 ≤ 17133) (hI : LI s G cA ax am ob H locs V M) (hl : lv_has ls 7 [(4, .int (nI i)), (0, .ref b), (1, .ref (ax 0)), (2, .ref (am 0)), (3, .ref ob)])
    (kk : ∀ (V : XV) (M : MV) (H : Heap) (locs : List Loc) (ls : Array Slot), LI s G cA ax am ob H locs V M → lv_has ls 7 [(4, .int (nI i)), (0, .ref b), (1, .ref (ax 0)), (2, .ref (am 0)), (3, .ref ob)] → W p l e room_1 s m #[Value.ref b] below meth c H locs (cells + 1) (slots + 6) Q (F0 m 625 ls [])) : W p l e room_1 s m #[Value.ref b] below meth c H locs cells slots Q (F0 m 489 ls []) := by
  obtain ⟨hx, hb, hr, hml, hown0, hts, hX, hbl, hlocks, hgv⟩ := id C0
  have hown : s.vm.findClass RL = some m.cls := hown0
  have htl : ∀ w ∈ wsL_law, w.before #[Value.ref b] s = true := fun w h => hts w (wsL_law_in w h)
  have hbA : ¬ s.heap.size ≤ b := Nat.not_le.mpr hbl
  obtain ⟨o, hPx, hPm, hPo, hD, hS, hrel⟩ := hI
  have h30 : xnp V ≤ 30 := hrel.1.1.2.2.1
  have h60 : xnq V ≤ 60 := hrel.1.1.2.2.2
  have hxo := rel_xOK hrel.1
  have hmo := rel_mOK hrel.1
  have hf0 : cells ≤ 1057 ∧ slots ≤ 17133 := ⟨by omega, by omega⟩
  refine lv_aload_n hx hb dL_law_489 rfl (lv_at hl 2 rfl) ?_
  refine lv_aload_n hx hb dL_law_490 rfl (lv_at hl 1 rfl) ?_
  refine lv_iload hx hb dL_law_491 (lv_at hl 0 rfl) ?_
  refine lv_iconst (v := nI 1) hx hb dL_law_493 (by decide) ?_
  refine lv_iadd hx hb dL_law_494 ?_
  refine rd_topi (nI_add i 1) ?_
  refine ls_sld hx hb hX hbl hbA hS (by omega) (by omega) dL_law_495 ?_
  refine lv_aload_n hx hb dL_law_496 rfl (lv_at hl 1 rfl) ?_
  refine lv_iload hx hb dL_law_497 (lv_at hl 0 rfl) ?_
  refine lv_iconst (v := nI 2) hx hb dL_law_499 (by decide) ?_
  refine lv_iadd hx hb dL_law_500 ?_
  refine rd_topi (nI_add i 2) ?_
  refine ls_sld hx hb hX hbl hbA hS (by omega) (by omega) dL_law_501 ?_
  refine mu_callF (A := fun q => s.heap.size ≤ q) (H0 := s.heap) (wc := xW cA ax V) (wr := mW cA am M ++ oW cA ob o) (As := [.int (xs (i + 1)), .int (xs (i + 2))]) (rest := []) (b := ax 0) (q0 := 0) (ci := 0) ⟨hx, hb, hml, hown, htl⟩ (cx_fallback l G cA ax V (xs (i + 1)) (xs (i + 2)) h60) (cwV 2 htl gL_law_X0_fallback rfl rfl rfl (by decide +kernel) ⟨Nat.le_of_ble_eq_true rfl, Nat.le_of_ble_eq_true rfl⟩) hK hPx (hPm.app hPo) hD hS rfl rfl rfl (fun _ _ => rfl) rfl hl.1 rfl (Nat.le_of_ble_eq_true rfl) dL_law_502 hf0 (fun u H locs hu hPx hPr hD hS => ?_)
  subst hu
  have hPm := va_Pl hPr
  have hPo := va_Pr hPr
  have hD := hD_xm hD
  refine lv_aload_n hx hb dL_law_505 rfl (lv_at hl 3 rfl) ?_
  refine lv_aload_n hx hb dL_law_506 rfl (lv_at hl 1 rfl) ?_
  refine lv_iload hx hb dL_law_507 (lv_at hl 0 rfl) ?_
  refine lv_iconst (v := nI 1) hx hb dL_law_509 (by decide) ?_
  refine lv_iadd hx hb dL_law_510 ?_
  refine rd_topi (nI_add i 1) ?_
  refine ls_sld hx hb hX hbl hbA hS (by omega) (by omega) dL_law_511 ?_
  refine lv_aload_n hx hb dL_law_512 rfl (lv_at hl 1 rfl) ?_
  refine lv_iload hx hb dL_law_513 (lv_at hl 0 rfl) ?_
  refine lv_iconst (v := nI 2) hx hb dL_law_515 (by decide) ?_
  refine lv_iadd hx hb dL_law_516 ?_
  refine rd_topi (nI_add i 2) ?_
  refine ls_sld hx hb hX hbl hbA hS (by omega) (by omega) dL_law_517 ?_
  refine mu_callF (A := fun q => s.heap.size ≤ q) (H0 := s.heap) (wc := mW cA am M) (wr := xW cA ax (xFall V (xs (i + 1)) (xs (i + 2))).2 ++ oW cA ob o) (As := [.int (xs (i + 1)), .int (xs (i + 2))]) (rest := [.int (xFall V (xs (i + 1)) (xs (i + 2))).1]) (b := am 0) (q0 := 0) (ci := 1) ⟨hx, hb, hml, hown, hts⟩ (cm_fallback l G cA am M (xs (i + 1)) (xs (i + 2)) hmo.2.1) (cwV 2 hts gL_law_M_fallback rfl rfl rfl (by decide +kernel) ⟨Nat.le_of_ble_eq_true rfl, Nat.le_of_ble_eq_true rfl⟩) hK hPm (hPx.app hPo) hD hS rfl rfl rfl (fun _ _ => rfl) rfl hl.1 rfl (Nat.le_of_ble_eq_true rfl) dL_law_518 hf0 (fun u H locs hu hPm hPr hD hS => ?_)
  subst hu
  have hPx := va_Pl hPr
  have hPo := va_Pr hPr
  have hD := hD_mx hD
  refine lv_icmp_eq (tgt := 625) hx hb dL_law_521 (by decide) (fun c9 => ?_) (fun c9 => absurd ((keep_fall hrel (xs (i + 1)) (xs (i + 2))).1) c9)
  refine W.widen (k := cells + 1) (n := slots + 6) (by omega) (by omega) ?_
  exact kk _ _ H locs ls ⟨o, hPx, hPm, hPo, hD, hS, (keep_fall hrel (xs (i + 1)) (xs (i + 2))).2⟩ hl
set_option maxHeartbeats 4000000 in
set_option maxRecDepth 100000 in
theorem lc_queue {p : Program} {e : Env} {s : State} {m : MethodId} {below : List Frame} {meth : Method} {c : Code} {l : Launch} (hstk : l.stackTraces = false) {b L i sa ob cells slots : Nat} {xs : Nat → Int32} {G : va_G} {cA : Nat → ClassId} {ax am : Nat → Nat} {V : XV} {M : MV} {H : Heap} {locs : List Loc} {ls : Array Slot} {Q : State → Prop} (C0 : lw_At p s m meth c b L xs) (hK : va_K G vwC2 (tT cA) s) (hZ : vxS sa s s.heap (fun q => s.heap.size ≤ q)) (hL : L ≤ 3584) (hi : i + 7 ≤ L) (hc : cells + 1 ≤ 1057) (hsl : slots + 6 ≤ 17133) (hI : LI s G cA ax am ob H locs V M) (hl : lv_has ls 7 [(4, .int (nI i)), (0, .ref b), (1, .ref (ax 0)), (2, .ref (am 0)), (3, .ref ob)])
    (kk : ∀ (V : XV) (M : MV) (H : Heap) (locs : List Loc) (ls : Array Slot), LI s G cA ax am ob H locs V M → lv_has ls 7 [(4, .int (nI i)), (0, .ref b), (1, .ref (ax 0)), (2, .ref (am 0)), (3, .ref ob)] → W p l e room_1 s m #[Value.ref b] below meth c H locs (cells + 1) (slots + 6) Q (F0 m 625 ls [])) : W p l e room_1 s m #[Value.ref b] below meth c H locs cells slots Q (F0 m 526 ls []) := by
  obtain ⟨hx, hb, hr, hml, hown0, hts, hX, hbl, hlocks, hgv⟩ := id C0
  have hown : s.vm.findClass RL = some m.cls := hown0
  have htl : ∀ w ∈ wsL_law, w.before #[Value.ref b] s = true := fun w h => hts w (wsL_law_in w h)
  have hbA : ¬ s.heap.size ≤ b := Nat.not_le.mpr hbl
  obtain ⟨o, hPx, hPm, hPo, hD, hS, hrel⟩ := hI
  have h30 : xnp V ≤ 30 := hrel.1.1.2.2.1
  have h60 : xnq V ≤ 60 := hrel.1.1.2.2.2
  have hxo := rel_xOK hrel.1
  have hmo := rel_mOK hrel.1
  have hf0 : cells ≤ 1057 ∧ slots ≤ 17133 := ⟨by omega, by omega⟩
  refine lv_aload_n hx hb dL_law_526 rfl (lv_at hl 2 rfl) ?_
  refine lv_aload_n hx hb dL_law_527 rfl (lv_at hl 1 rfl) ?_
  refine lv_iload hx hb dL_law_528 (lv_at hl 0 rfl) ?_
  refine lv_iconst (v := nI 1) hx hb dL_law_530 (by decide) ?_
  refine lv_iadd hx hb dL_law_531 ?_
  refine rd_topi (nI_add i 1) ?_
  refine ls_sld hx hb hX hbl hbA hS (by omega) (by omega) dL_law_532 ?_
  refine lv_aload_n hx hb dL_law_533 rfl (lv_at hl 1 rfl) ?_
  refine lv_iload hx hb dL_law_534 (lv_at hl 0 rfl) ?_
  refine lv_iconst (v := nI 2) hx hb dL_law_536 (by decide) ?_
  refine lv_iadd hx hb dL_law_537 ?_
  refine rd_topi (nI_add i 2) ?_
  refine ls_sld hx hb hX hbl hbA hS (by omega) (by omega) dL_law_538 ?_
  refine mu_callF (A := fun q => s.heap.size ≤ q) (H0 := s.heap) (wc := xW cA ax V) (wr := mW cA am M ++ oW cA ob o) (As := [.int (xs (i + 1)), .int (xs (i + 2))]) (rest := []) (b := ax 0) (q0 := 0) (ci := 0) ⟨hx, hb, hml, hown, htl⟩ (cx_queue l G cA ax V (xs (i + 1)) (xs (i + 2)) h60) (cwV 2 htl gL_law_X0_queue rfl rfl rfl (by decide +kernel) ⟨Nat.le_of_ble_eq_true rfl, Nat.le_of_ble_eq_true rfl⟩) hK hPx (hPm.app hPo) hD hS rfl rfl rfl (fun _ _ => rfl) rfl hl.1 rfl (Nat.le_of_ble_eq_true rfl) dL_law_539 hf0 (fun u H locs hu hPx hPr hD hS => ?_)
  subst hu
  have hPm := va_Pl hPr
  have hPo := va_Pr hPr
  have hD := hD_xm hD
  refine lv_aload_n hx hb dL_law_542 rfl (lv_at hl 3 rfl) ?_
  refine lv_aload_n hx hb dL_law_543 rfl (lv_at hl 1 rfl) ?_
  refine lv_iload hx hb dL_law_544 (lv_at hl 0 rfl) ?_
  refine lv_iconst (v := nI 1) hx hb dL_law_546 (by decide) ?_
  refine lv_iadd hx hb dL_law_547 ?_
  refine rd_topi (nI_add i 1) ?_
  refine ls_sld hx hb hX hbl hbA hS (by omega) (by omega) dL_law_548 ?_
  refine lv_aload_n hx hb dL_law_549 rfl (lv_at hl 1 rfl) ?_
  refine lv_iload hx hb dL_law_550 (lv_at hl 0 rfl) ?_
  refine lv_iconst (v := nI 2) hx hb dL_law_552 (by decide) ?_
  refine lv_iadd hx hb dL_law_553 ?_
  refine rd_topi (nI_add i 2) ?_
  refine ls_sld hx hb hX hbl hbA hS (by omega) (by omega) dL_law_554 ?_
  refine mu_callF (A := fun q => s.heap.size ≤ q) (H0 := s.heap) (wc := mW cA am M) (wr := xW cA ax (xQue V (xs (i + 1)) (xs (i + 2))).2 ++ oW cA ob o) (As := [.int (xs (i + 1)), .int (xs (i + 2))]) (rest := [.int (xQue V (xs (i + 1)) (xs (i + 2))).1]) (b := am 0) (q0 := 0) (ci := 1) ⟨hx, hb, hml, hown, hts⟩ (cm_queue l G cA am M (xs (i + 1)) (xs (i + 2)) hmo.2.1) (cwV 2 hts gL_law_M_queue rfl rfl rfl (by decide +kernel) ⟨Nat.le_of_ble_eq_true rfl, Nat.le_of_ble_eq_true rfl⟩) hK hPm (hPx.app hPo) hD hS rfl rfl rfl (fun _ _ => rfl) rfl hl.1 rfl (Nat.le_of_ble_eq_true rfl) dL_law_555 hf0 (fun u H locs hu hPm hPr hD hS => ?_)
  subst hu
  have hPx := va_Pl hPr
  have hPo := va_Pr hPr
  have hD := hD_mx hD
  refine lv_icmp_eq (tgt := 625) hx hb dL_law_558 (by decide) (fun c9 => ?_) (fun c9 => absurd ((keep_que hrel (xs (i + 1)) (xs (i + 2))).1) c9)
  refine W.widen (k := cells + 1) (n := slots + 6) (by omega) (by omega) ?_
  exact kk _ _ H locs ls ⟨o, hPx, hPm, hPo, hD, hS, (keep_que hrel (xs (i + 1)) (xs (i + 2))).2⟩ hl
set_option maxHeartbeats 4000000 in
set_option maxRecDepth 100000 in
theorem lc_version {p : Program} {e : Env} {s : State} {m : MethodId} {below : List Frame} {meth : Method} {c : Code} {l : Launch} (hstk : l.stackTraces = false) {b L i sa ob cells slots : Nat} {xs : Nat → Int32} {G : va_G} {cA : Nat → ClassId} {ax am : Nat → Nat} {V : XV} {M : MV} {H : Heap} {locs : List Loc} {ls : Array Slot} {Q : State → Prop} (C0 : lw_At p s m meth c b L xs) (hK : va_K G vwC2 (tT cA) s) (hZ : vxS sa s s.heap (fun q => s.heap.size ≤ q)) (hL : L ≤ 3584) (hi : i + 7 ≤ L) (hc : cells + 1 ≤ 1057) (hsl : slots + 6 ≤ 17133) (hI : LI s G cA ax am ob H locs V M) (hl : lv_has ls 7 [(4, .int (nI i)), (0, .ref b), (1, .ref (ax 0)), (2, .ref (am 0)), (3, .ref ob)])
    (kk : ∀ (V : XV) (M : MV) (H : Heap) (locs : List Loc) (ls : Array Slot), LI s G cA ax am ob H locs V M → lv_has ls 7 [(4, .int (nI i)), (0, .ref b), (1, .ref (ax 0)), (2, .ref (am 0)), (3, .ref ob)] → W p l e room_1 s m #[Value.ref b] below meth c H locs (cells + 1) (slots + 6) Q (F0 m 625 ls [])) : W p l e room_1 s m #[Value.ref b] below meth c H locs cells slots Q (F0 m 563 ls []) := by
  obtain ⟨hx, hb, hr, hml, hown0, hts, hX, hbl, hlocks, hgv⟩ := id C0
  have hown : s.vm.findClass RL = some m.cls := hown0
  have htl : ∀ w ∈ wsL_law, w.before #[Value.ref b] s = true := fun w h => hts w (wsL_law_in w h)
  have hbA : ¬ s.heap.size ≤ b := Nat.not_le.mpr hbl
  obtain ⟨o, hPx, hPm, hPo, hD, hS, hrel⟩ := hI
  have h30 : xnp V ≤ 30 := hrel.1.1.2.2.1
  have h60 : xnq V ≤ 60 := hrel.1.1.2.2.2
  have hxo := rel_xOK hrel.1
  have hmo := rel_mOK hrel.1
  have hf0 : cells ≤ 1057 ∧ slots ≤ 17133 := ⟨by omega, by omega⟩
  refine lv_aload_n hx hb dL_law_563 rfl (lv_at hl 2 rfl) ?_
  refine lv_aload_n hx hb dL_law_564 rfl (lv_at hl 1 rfl) ?_
  refine lv_iload hx hb dL_law_565 (lv_at hl 0 rfl) ?_
  refine lv_iconst (v := nI 1) hx hb dL_law_567 (by decide) ?_
  refine lv_iadd hx hb dL_law_568 ?_
  refine rd_topi (nI_add i 1) ?_
  refine ls_sld hx hb hX hbl hbA hS (by omega) (by omega) dL_law_569 ?_
  refine lv_aload_n hx hb dL_law_570 rfl (lv_at hl 1 rfl) ?_
  refine lv_iload hx hb dL_law_571 (lv_at hl 0 rfl) ?_
  refine lv_iconst (v := nI 2) hx hb dL_law_573 (by decide) ?_
  refine lv_iadd hx hb dL_law_574 ?_
  refine rd_topi (nI_add i 2) ?_
  refine ls_sld hx hb hX hbl hbA hS (by omega) (by omega) dL_law_575 ?_
  refine mu_callF (A := fun q => s.heap.size ≤ q) (H0 := s.heap) (wc := xW cA ax V) (wr := mW cA am M ++ oW cA ob o) (As := [.int (xs (i + 1)), .int (xs (i + 2))]) (rest := []) (b := ax 0) (q0 := 0) (ci := 0) ⟨hx, hb, hml, hown, htl⟩ (cx_version l G cA ax V (xs (i + 1)) (xs (i + 2)) h60) (cwV 2 htl gL_law_X0_version rfl rfl rfl (by decide +kernel) ⟨Nat.le_of_ble_eq_true rfl, Nat.le_of_ble_eq_true rfl⟩) hK hPx (hPm.app hPo) hD hS rfl rfl rfl (fun _ _ => rfl) rfl hl.1 rfl (Nat.le_of_ble_eq_true rfl) dL_law_576 hf0 (fun u H locs hu hPx hPr hD hS => ?_)
  subst hu
  have hPm := va_Pl hPr
  have hPo := va_Pr hPr
  have hD := hD_xm hD
  refine lv_aload_n hx hb dL_law_579 rfl (lv_at hl 3 rfl) ?_
  refine lv_aload_n hx hb dL_law_580 rfl (lv_at hl 1 rfl) ?_
  refine lv_iload hx hb dL_law_581 (lv_at hl 0 rfl) ?_
  refine lv_iconst (v := nI 1) hx hb dL_law_583 (by decide) ?_
  refine lv_iadd hx hb dL_law_584 ?_
  refine rd_topi (nI_add i 1) ?_
  refine ls_sld hx hb hX hbl hbA hS (by omega) (by omega) dL_law_585 ?_
  refine lv_aload_n hx hb dL_law_586 rfl (lv_at hl 1 rfl) ?_
  refine lv_iload hx hb dL_law_587 (lv_at hl 0 rfl) ?_
  refine lv_iconst (v := nI 2) hx hb dL_law_589 (by decide) ?_
  refine lv_iadd hx hb dL_law_590 ?_
  refine rd_topi (nI_add i 2) ?_
  refine ls_sld hx hb hX hbl hbA hS (by omega) (by omega) dL_law_591 ?_
  refine mu_callF (A := fun q => s.heap.size ≤ q) (H0 := s.heap) (wc := mW cA am M) (wr := xW cA ax (xVer V (xs (i + 1)) (xs (i + 2))).2 ++ oW cA ob o) (As := [.int (xs (i + 1)), .int (xs (i + 2))]) (rest := [.int (xVer V (xs (i + 1)) (xs (i + 2))).1]) (b := am 0) (q0 := 0) (ci := 1) ⟨hx, hb, hml, hown, hts⟩ (cm_version l G cA am M (xs (i + 1)) (xs (i + 2)) hmo.2.1) (cwV 2 hts gL_law_M_version rfl rfl rfl (by decide +kernel) ⟨Nat.le_of_ble_eq_true rfl, Nat.le_of_ble_eq_true rfl⟩) hK hPm (hPx.app hPo) hD hS rfl rfl rfl (fun _ _ => rfl) rfl hl.1 rfl (Nat.le_of_ble_eq_true rfl) dL_law_592 hf0 (fun u H locs hu hPm hPr hD hS => ?_)
  subst hu
  have hPx := va_Pl hPr
  have hPo := va_Pr hPr
  have hD := hD_mx hD
  refine lv_icmp_eq (tgt := 625) hx hb dL_law_595 (by decide) (fun c9 => ?_) (fun c9 => absurd ((keep_ver hrel (xs (i + 1)) (xs (i + 2))).1) c9)
  refine W.widen (k := cells + 1) (n := slots + 6) (by omega) (by omega) ?_
  exact kk _ _ H locs ls ⟨o, hPx, hPm, hPo, hD, hS, (keep_ver hrel (xs (i + 1)) (xs (i + 2))).2⟩ hl
set_option maxHeartbeats 4000000 in
set_option maxRecDepth 100000 in
theorem lc_open {p : Program} {e : Env} {s : State} {m : MethodId} {below : List Frame} {meth : Method} {c : Code} {l : Launch} (hstk : l.stackTraces = false) {b L i sa ob cells slots : Nat} {xs : Nat → Int32} {G : va_G} {cA : Nat → ClassId} {ax am : Nat → Nat} {V : XV} {M : MV} {H : Heap} {locs : List Loc} {ls : Array Slot} {Q : State → Prop} (C0 : lw_At p s m meth c b L xs) (hK : va_K G vwC2 (tT cA) s) (hZ : vxS sa s s.heap (fun q => s.heap.size ≤ q)) (hL : L ≤ 3584) (hi : i + 7 ≤ L) (hc : cells + 1 ≤ 1057) (hsl : slots + 6 ≤ 17133) (hI : LI s G cA ax am ob H locs V M) (hl : lv_has ls 7 [(4, .int (nI i)), (0, .ref b), (1, .ref (ax 0)), (2, .ref (am 0)), (3, .ref ob)])
    (kk : ∀ (V : XV) (M : MV) (H : Heap) (locs : List Loc) (ls : Array Slot), LI s G cA ax am ob H locs V M → lv_has ls 7 [(4, .int (nI i)), (0, .ref b), (1, .ref (ax 0)), (2, .ref (am 0)), (3, .ref ob)] → W p l e room_1 s m #[Value.ref b] below meth c H locs (cells + 1) (slots + 6) Q (F0 m 625 ls [])) : W p l e room_1 s m #[Value.ref b] below meth c H locs cells slots Q (F0 m 600 ls []) := by
  obtain ⟨hx, hb, hr, hml, hown0, hts, hX, hbl, hlocks, hgv⟩ := id C0
  have hown : s.vm.findClass RL = some m.cls := hown0
  have htl : ∀ w ∈ wsL_law, w.before #[Value.ref b] s = true := fun w h => hts w (wsL_law_in w h)
  have hbA : ¬ s.heap.size ≤ b := Nat.not_le.mpr hbl
  obtain ⟨o, hPx, hPm, hPo, hD, hS, hrel⟩ := hI
  have h30 : xnp V ≤ 30 := hrel.1.1.2.2.1
  have h60 : xnq V ≤ 60 := hrel.1.1.2.2.2
  have hxo := rel_xOK hrel.1
  have hmo := rel_mOK hrel.1
  have hf0 : cells ≤ 1057 ∧ slots ≤ 17133 := ⟨by omega, by omega⟩
  refine lv_aload_n hx hb dL_law_600 rfl (lv_at hl 2 rfl) ?_
  refine lv_aload_n hx hb dL_law_601 rfl (lv_at hl 1 rfl) ?_
  refine lv_iload hx hb dL_law_602 (lv_at hl 0 rfl) ?_
  refine lv_iconst (v := nI 1) hx hb dL_law_604 (by decide) ?_
  refine lv_iadd hx hb dL_law_605 ?_
  refine rd_topi (nI_add i 1) ?_
  refine ls_sld hx hb hX hbl hbA hS (by omega) (by omega) dL_law_606 ?_
  refine rd_callV (ws := xW cA ax V) (As := [.int (xs (i + 1))]) (rest := []) (b := ax 0) (q0 := 0) (ci := 0) ⟨hx, hb, hml, hown, htl⟩ (cx_open l G cA ax V (xs (i + 1)) h60) (cwV 1 htl gL_law_X0_open rfl rfl rfl (by decide +kernel) ⟨Nat.le_of_ble_eq_true rfl, Nat.le_of_ble_eq_true rfl⟩) hK hPx rfl rfl rfl rfl hl.1 rfl (Nat.le_of_ble_eq_true rfl) dL_law_607 hf0 ?_
  refine lv_aload_n hx hb dL_law_610 rfl (lv_at hl 3 rfl) ?_
  refine lv_aload_n hx hb dL_law_611 rfl (lv_at hl 1 rfl) ?_
  refine lv_iload hx hb dL_law_612 (lv_at hl 0 rfl) ?_
  refine lv_iconst (v := nI 1) hx hb dL_law_614 (by decide) ?_
  refine lv_iadd hx hb dL_law_615 ?_
  refine rd_topi (nI_add i 1) ?_
  refine ls_sld hx hb hX hbl hbA hS (by omega) (by omega) dL_law_616 ?_
  refine mu_callF (A := fun q => s.heap.size ≤ q) (H0 := s.heap) (wc := mW cA am M) (wr := xW cA ax V ++ oW cA ob o) (As := [.int (xs (i + 1))]) (rest := [.int (if ((xs (i + 1))).toInt < 0 then 0 else nI (xOp V ((xs (i + 1))).toNatClampNeg))]) (b := am 0) (q0 := 0) (ci := 1) ⟨hx, hb, hml, hown, hts⟩ (cm_open l G cA am M (xs (i + 1)) hmo.1 hmo.2.1 hmo.2.2.2.2 hrel.2) (cwV 1 hts gL_law_M_open rfl rfl rfl (by decide +kernel) ⟨Nat.le_of_ble_eq_true rfl, Nat.le_of_ble_eq_true rfl⟩) hK hPm (hPx.app hPo) (hD_xm hD) hS rfl rfl rfl (fun _ _ => rfl) rfl hl.1 rfl (Nat.le_of_ble_eq_true rfl) dL_law_617 hf0 (fun u H locs hu hPm hPr hD hS => ?_)
  have hPx := va_Pl hPr
  have hPo := va_Pr hPr
  have hD := hD_mx hD
  refine lv_icmp_eq (tgt := 625) hx hb dL_law_620 (by decide) (fun c9 => ?_) (fun c9 => absurd (rel_open hrel.1 (xs (i + 1))) c9)
  refine W.widen (k := cells + 1) (n := slots + 6) (by omega) (by omega) ?_
  exact kk _ _ H locs ls ⟨o, hPx, hPm, hPo, hD, hS, rel_up hrel hu⟩ hl
