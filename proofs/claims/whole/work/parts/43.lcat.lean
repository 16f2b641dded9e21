/-! the case of at -/
set_option maxHeartbeats 4000000 in
set_option maxRecDepth 100000 in
theorem lc_at {p : Program} {e : Env} {s : State} {m : MethodId} {below : List Frame} {meth : Method} {c : Code} {l : Launch} (hstk : l.stackTraces = false) {b L i sa ob cells slots : Nat} {xs : Nat → Int32} {G : va_G} {cA : Nat → ClassId} {ax am : Nat → Nat} {V : XV} {M : MV} {H : Heap} {locs : List Loc} {ls : Array Slot} {Q : State → Prop} (C0 : lw_At p s m meth c b L xs) (hK : va_K G vwC2 (tT cA) s) (hZ : vxS sa s s.heap (fun q => s.heap.size ≤ q)) (hL : L ≤ 3584) (hi : i + 7 ≤ L) (hc : cells + 1 ≤ 1057) (hsl : slots + 6 ≤ 17133) (hI : LI s G cA ax am ob H locs V M) (hl : lv_has ls 7 [(4, .int (nI i)), (0, .ref b), (1, .ref (ax 0)), (2, .ref (am 0)), (3, .ref ob)])
    (kk : ∀ (V : XV) (M : MV) (H : Heap) (locs : List Loc) (ls : Array Slot), LI s G cA ax am ob H locs V M → lv_has ls 7 [(4, .int (nI i)), (0, .ref b), (1, .ref (ax 0)), (2, .ref (am 0)), (3, .ref ob)] → W p l e room_1 s m #[Value.ref b] below meth c H locs (cells + 1) (slots + 6) Q (F0 m 625 ls [])) : W p l e room_1 s m #[Value.ref b] below meth c H locs cells slots Q (F0 m 371 ls []) := by
  obtain ⟨hx, hb, hr, hml, hown0, hts, hX, hbl, hlocks, hgv⟩ := id C0
  have hown : s.vm.findClass RL = some m.cls := hown0
  have htl : ∀ w ∈ wsL_law, w.before #[Value.ref b] s = true := fun w h => hts w (wsL_law_in w h)
  have hbA : ¬ s.heap.size ≤ b := Nat.not_le.mpr hbl
  obtain ⟨o, hPx, hPm, hPo, hD, hS, hrel⟩ := hI
  have h30 : xnp V ≤ 30 := hrel.1.1.2.2.1
  have h60 : xnq V ≤ 60 := hrel.1.1.2.2.2
  have hxo := rel_xOK hrel.1
  have hmo := rel_mOK hrel.1
  have hf0 : cells ≤ 1057 ∧ slots ≤ 17133 := ⟨by omega, by omega⟩
  refine lv_aload_n hx hb dL_law_371 rfl (lv_at hl 2 rfl) ?_
  refine lv_aload_n hx hb dL_law_372 rfl (lv_at hl 1 rfl) ?_
  refine lv_iload hx hb dL_law_373 (lv_at hl 0 rfl) ?_
  refine lv_iconst (v := nI 1) hx hb dL_law_375 (by decide) ?_
  refine lv_iadd hx hb dL_law_376 ?_
  refine rd_topi (nI_add i 1) ?_
  refine ls_sld hx hb hX hbl hbA hS (by omega) (by omega) dL_law_377 ?_
  refine lv_aload_n hx hb dL_law_378 rfl (lv_at hl 1 rfl) ?_
  refine lv_iload hx hb dL_law_379 (lv_at hl 0 rfl) ?_
  refine lv_iconst (v := nI 2) hx hb dL_law_381 (by decide) ?_
  refine lv_iadd hx hb dL_law_382 ?_
  refine rd_topi (nI_add i 2) ?_
  refine ls_sld hx hb hX hbl hbA hS (by omega) (by omega) dL_law_383 ?_
  refine lv_aload_n hx hb dL_law_384 rfl (lv_at hl 4 rfl) ?_
  have hDxo : va_D (fun _ => True) (xWo cA ax V ob o) := va_D.weaken (va_D.sub hD (ws' := xWo cA ax V ob o) [0, 1, 2, 3, 4, 5, 6, 7, 8, 9, 10, 11, 12, 13, 14, 15, 31] (by decide) rfl) (fun _ _ _ _ => trivial)
  have hobA : s.heap.size ≤ ob := hD.2 31 (ob, .inl (cA 2, 1, .inr (.inl o))) rfl
  refine va_calli (A0 := fun q => s.heap.size ≤ q) (H0 := s.heap) (vx_runSW (hh := [(0, 10, 13, 13)]) (As := [.ref (ax 0), .int (xs (i + 1)), .int (xs (i + 2)), .ref ob]) (rest := []) ⟨hx, hb, hml, hown, htl⟩ (cl_at l hstk G cA ax V sa ob o (xs (i + 1)) (xs (i + 2)) hxo) (vx_cwSW 4 htl gL_law_L_at rfl rfl rfl (by decide +kernel) ⟨Nat.le_of_ble_eq_true rfl, Nat.le_of_ble_eq_true rfl⟩) ⟨la_blind, fun U hU hW => ⟨rfl, by rw [hU]; exact hPx.app hPo, va_K.moved hW.alike hK, hDxo, by rw [hU]; exact vxS.warm hW ((hZ.kept hS.2.1).narrow (fun _ h => h.elim))⟩⟩ rfl rfl hl.1 rfl (lv_room (Nat.le_of_ble_eq_true rfl)) dL_law_385 ⟨hc, hsl⟩) hS (fun q _ h => by rw [h]; exact hobA) (fun q h => by rw [h]; exact hobA) (fun r o1 t H1 locs1 ht hvm hpo hB hz hk hS => ?_)
  rw [ht] at hB
  have hPx := va_Pl hB
  have hPo : va_P G vwC2 (oW cA ob o1) H1 := va_Pr hB
  have hPm : va_P G vwC2 (mW cA am M) H1 := hPm.kept (fun k y hy => hk y.1 (vx_lt hPm hy) (fun z => by
    have hk9 := (List.getElem?_eq_some_iff.mp hy).1
    have h1 : (xW cA ax V ++ (mW cA am M ++ oW cA ob o))[16 + k]? = some y := by
      show (xW cA ax V ++ (mW cA am M ++ oW cA ob o))[(xW cA ax V).length + k]? = some y
      rw [List.getElem?_append_right (by omega), Nat.add_sub_cancel_left, List.getElem?_append_left hk9]
      exact hy
    have h2 := hD.1 (16 + k) 31 y (ob, .inl (cA 2, 1, .inr (.inl o))) h1 rfl z
    have h3 : k < 15 := hk9
    omega))
  have hD : va_D (fun q => s.heap.size ≤ q) (xW cA ax V ++ (mW cA am M ++ oW cA ob o1)) := mu_fst (ws := xW cA ax V ++ (mW cA am M ++ oW cA ob o)) rfl hD
  generalize H1 = H at hPx hPm hPo hS ⊢
  refine lv_istore (lv' := [(5, .int r), (4, .int (nI i)), (0, .ref b), (1, .ref (ax 0)), (2, .ref (am 0)), (3, .ref ob)]) hx hb dL_law_388 hl (by decide) rfl (fun ls hl => ?_)
  refine lv_aload_n hx hb dL_law_390 rfl (lv_at hl 4 rfl) ?_
  refine lv_aload_n hx hb dL_law_391 rfl (lv_at hl 2 rfl) ?_
  refine lv_iload hx hb dL_law_392 (lv_at hl 1 rfl) ?_
  refine lv_iconst (v := nI 1) hx hb dL_law_394 (by decide) ?_
  refine lv_iadd hx hb dL_law_395 ?_
  refine rd_topi (nI_add i 1) ?_
  refine ls_sld hx hb hX hbl hbA hS (by omega) (by omega) dL_law_396 ?_
  refine lv_aload_n hx hb dL_law_397 rfl (lv_at hl 2 rfl) ?_
  refine lv_iload hx hb dL_law_398 (lv_at hl 1 rfl) ?_
  refine lv_iconst (v := nI 2) hx hb dL_law_400 (by decide) ?_
  refine lv_iadd hx hb dL_law_401 ?_
  refine rd_topi (nI_add i 2) ?_
  refine ls_sld hx hb hX hbl hbA hS (by omega) (by omega) dL_law_402 ?_
  refine mu_callF (A := fun q => s.heap.size ≤ q) (H0 := s.heap) (wc := mW cA am M) (wr := xW cA ax V ++ oW cA ob o1) (As := [.int (xs (i + 1)), .int (xs (i + 2))]) (rest := []) (b := am 0) (q0 := 0) (ci := 1) ⟨hx, hb, hml, hown, hts⟩ (cm_at l G cA am M (xs (i + 1)) (xs (i + 2)) hmo.1 hmo.2.1 hmo.2.2.2.2 hrel.2) (cwV 2 hts gL_law_M_at rfl rfl rfl (by decide +kernel) ⟨Nat.le_of_ble_eq_true rfl, Nat.le_of_ble_eq_true rfl⟩) hK hPm (hPx.app hPo) (hD_xm hD) hS rfl rfl rfl (fun _ _ => rfl) rfl hl.1 rfl (Nat.le_of_ble_eq_true rfl) dL_law_403 ⟨hc, hsl⟩ (fun u H locs hu hPm hPr hD hS => ?_)
  have hPx := va_Pl hPr
  have hPo := va_Pr hPr
  have hD := hD_mx hD
  refine lv_istore (lv' := [(6, .int (mAtA M (xs (i + 1)) (xs (i + 2)))), (5, .int r), (4, .int (nI i)), (0, .ref b), (1, .ref (ax 0)), (2, .ref (am 0)), (3, .ref ob)]) hx hb dL_law_406 hl (by decide) rfl (fun ls hl => ?_)
  refine lv_aload_n hx hb dL_law_408 rfl (lv_at hl 5 rfl) ?_
  refine rd_callV (ws := mW cA am u) (As := []) (rest := []) (b := am 0) (q0 := 0) (ci := 1) ⟨hx, hb, hml, hown, hts⟩ (cm_thrown l G cA am u) (cwV 0 hts gL_law_M_thrown rfl rfl rfl (by decide +kernel) ⟨Nat.le_of_ble_eq_true rfl, Nat.le_of_ble_eq_true rfl⟩) hK hPm rfl rfl rfl rfl hl.1 rfl (Nat.le_of_ble_eq_true rfl) dL_law_409 ⟨hc, hsl⟩ ?_
  have hco : mco u = mAtC M (xs (i + 1)) := by obtain ⟨kn, r9, rfl, _⟩ := hu; rfl
  refine rd_topi hco ?_
  have hfc := rel_fc hrel.1 (xs (i + 1))
  have hnew := rel_up hrel hu
  refine lv_iload hx hb dL_law_412 (lv_at hl 1 rfl) ?_
  rcases hpo with ⟨h0, rfl⟩ | ⟨h0, rfl, ho⟩
  · have hm0 : mAtC M (xs (i + 1)) = 1 := mAtC_0 (by rw [← hfc]; exact h0)
    refine lv_icmp_eq (tgt := 419) hx hb dL_law_414 (by decide) (fun _ => ?_) (fun c9 => absurd hm0 c9)
    refine lv_iload hx hb dL_law_419 (lv_at hl 1 rfl) ?_
    refine lv_if_ne (tgt := 436) hx hb dL_law_421 (by decide) (fun _ => ?_) (fun c9 => absurd c9 (by decide))
    refine lv_goto (tgt := 625) hx hb dL_law_436 (by decide) ?_
    exact kk _ _ H locs ls ⟨o1, hPx, hPm, hPo, hD, hS, hnew⟩ (lv_sub hl [2, 3, 4, 5, 6] rfl)
  · have hmn : ¬ mFc M (xs (i + 1)) = 0 := by rw [← hfc]; exact h0
    have hm0 : mAtC M (xs (i + 1)) = 0 := mAtC_n hmn
    have hans : xAtA V (xs (i + 1)) (xs (i + 2)) = mAtA M (xs (i + 1)) (xs (i + 2)) := by unfold xAtA mAtA; rw [if_neg hmn, hfc]
    refine lv_icmp_eq (tgt := 419) hx hb dL_law_414 (by decide) (fun _ => ?_) (fun c9 => absurd hm0 c9)
    refine lv_iload hx hb dL_law_419 (lv_at hl 1 rfl) ?_
    refine lv_if_ne (tgt := 436) hx hb dL_law_421 (by decide) (fun c9 => absurd rfl c9) (fun _ => ?_)
    refine lv_aload_n hx hb dL_law_424 rfl (lv_at hl 6 rfl) ?_
    refine lv_iconst (v := nI 0) hx hb dL_law_425 (by decide) ?_
    refine rd_lald hx hb hK hPo 0 2 rfl rfl (by decide) (by decide) dL_law_426 ?_
    refine lv_iload hx hb dL_law_427 (lv_at hl 0 rfl) ?_
    refine lv_i2l hx hb dL_law_429 rfl ?_
    refine bl_eq (tgt := 436) hx hb dL_law_430 dL_law_431 (by decide) (fun _ => ?_) (fun c9 => absurd (by rw [ho, hans]) c9)
    refine lv_goto (tgt := 625) hx hb dL_law_436 (by decide) ?_
    exact kk _ _ H locs ls ⟨o1, hPx, hPm, hPo, hD, hS, hnew⟩ (lv_sub hl [2, 3, 4, 5, 6] rfl)
