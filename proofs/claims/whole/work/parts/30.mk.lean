/-! M: know and what stands on it -/
set_option maxHeartbeats 4000000 in
set_option maxRecDepth 100000 in
theorem cm_know (l : Launch) (G : va_G) (cA : Nat → ClassId) (a : Nat → Nat) (V : MV)  (h60 : mnq V ≤ 60) (hkv : ¬ mkn V = 0 → mKn V) (hlb : mLb V) : Met l yM_know wsM_know { frames := 0, cells := 0, slots := 0, locals := 0 } (mu_Pc G vwC2 (tT cA) (mW cA a V) [.ref (a 0)]) (mu_Q G vwC2 (mW cA a V) (fun _ => none) (mKd V) (fun u9 => mW cA a u9)) 0 0 (mu_A (mW cA a V)) := by
  refine Met.ofW (cc := cM_know) (maxL := 4) (ret := none) (by decide) rfl ?_
  intro p e s m args below meth c s₁ B hml hv
  obtain ⟨rfl, hP, hK, hD0⟩ := hv
  have hx := B.exec
  have hb := B.bytes
  have hr := B.returns
  have hts := atoms_spec (ws := wsM_know) B.pre
  have hown : s.vm.findClass RX1 = some m.cls := findClass_of_methodNamed B.named
  have hlocks := B.notSynchronized
  have hD := mu_own hD0
  have hS : va_S (mu_A (mW cA a V)) s.heap s.heap [] := va_S.rf
  have hfi : ∀ w ∈ u_ws RX1 TM 18, w ∈ wsM_know := fun w h => List.mem_cons_of_mem _ (wMA_f w h)
  have hl := lv_entry ([.ref (a 0)]) (n := 4) (Nat.le_of_ble_eq_true rfl)
  rw [lg_entry_eq]
  generalize (lg_sl ([.ref (a 0)]) ++ List.replicate (4 - (lg_sl ([.ref (a 0)])).length) Slot.unset).toArray = ls at hl ⊢
  have hl : lv_has ls 4 [(0, .ref (a 0))] := hl
  refine lv_aload_n hx hb dM_know_0 rfl (lv_at hl 0 rfl) ?_
  refine va_get (D := G) (ci := 1) (v := .int (mkn V)) (C := RX1) (T := TM) (N := 18) hx hb hts hfi hown hK hP 0 rfl rfl 17 (by decide) (hts (.fieldLink RX1 65 "PortRulesModel" "known" "Z") (by decide +kernel)) (fun _ h9 => h9) rfl dM_know_1 ?_
  refine lv_if_eq (tgt := 8) hx hb dM_know_4 (by decide) (fun c4 => ?_) (fun c4 => ?_)
  · refine lv_aload_n hx hb dM_know_8 rfl (lv_at hl 0 rfl) ?_
    refine lv_iconst (v := 1) hx hb dM_know_9 (by decide) ?_
    refine va_put (D := G) (ci := 1) (v := .int 1) (ty := .boolean) (C := RX1) (T := TM) (N := 18) hx hb hts hfi tyM tyM_ok nmM hown hK hP hD hS 0 rfl rfl 17 (by decide) (hts (.fieldLink RX1 65 "PortRulesModel" "known" "Z") (by decide +kernel)) (fun _ h9 => h9) rfl (by decide +kernel) rfl rfl (Nat.le_of_ble_eq_true rfl) dM_know_10 (fun H locs hP hD hS => ?_)
    have hP : va_P G vwC2 (mW cA a (mnp V, mnq V, mco V, 1, mf V, mg V)) H := hP
    have hD : va_D (mu_A (mW cA a V)) (mW cA a (mnp V, mnq V, mco V, 1, mf V, mg V)) := hD
    refine lv_iconst (v := nI 0) hx hb dM_know_13 (by decide) ?_
    refine lv_istore_n (lv' := [(1, .int (nI 0)), (0, .ref (a 0))]) hx hb dM_know_14 rfl hl (by decide) rfl (fun ls hl => ?_)
    refine mu_loop (H0 := s.heap) (fun k ls H locs => ∃ (i : Nat) (r : Nat → Int32), i + k = 3721 ∧ (∀ j, j < i → r j = mf V 15 j) ∧ va_P G vwC2 (mW cA a (mnp V, mnq V, mco V, 1, va_up (mf V) 16 r, mg V)) H ∧ va_D (mu_A (mW cA a V)) (mW cA a (mnp V, mnq V, mco V, 1, va_up (mf V) 16 r, mg V)) ∧ va_S (mu_A (mW cA a V)) s.heap H locs ∧ lv_has ls 4 [(1, .int (nI i)), (0, .ref (a 0))]) ?_ 3721 ls H locs ⟨0, mf V 16, by omega, fun j hj => absurd hj (by omega), by rw [va_up_id]; exact hP, by rw [va_up_id]; exact hD, hS, (lv_sub hl [0, 1] rfl)⟩
    intro k15 ls H locs ⟨i, r, hk, hr9, hP, hD, hS, hl⟩ ih15
    refine lv_iload_n hx hb dM_know_15 rfl (lv_at hl 0 rfl) ?_
    refine lv_sipush (v := nI 3721) hx hb dM_know_16 (by decide) ?_
    refine nb_ge (tgt := 40) hx hb dM_know_19 (by decide) (by omega) (by omega) (fun c19 => ?_) (fun c19 => ?_)
    · have hk0 : kn3 (mL V) (mnq V) r 0 1 1 := kn3_0 (fun p0 q0 h1 h2 h3 h4 => by unfold bv mL; rw [hr9 (61 * p0 + q0) (by omega)])
      refine lv_iconst (v := nI 1) hx hb dM_know_40 (by decide) ?_
      refine lv_istore_n (lv' := [(1, .int (nI 1)), (0, .ref (a 0))]) hx hb dM_know_41 rfl hl (by decide) rfl (fun ls hl => ?_)
      refine mu_loop (H0 := s.heap) (fun k ls H locs => ∃ (b : Nat) (r : Nat → Int32), b + k = mnq V ∧ kn3 (mL V) (mnq V) r b 1 1 ∧ va_P G vwC2 (mW cA a (mnp V, mnq V, mco V, 1, va_up (mf V) 16 r, mg V)) H ∧ va_D (mu_A (mW cA a V)) (mW cA a (mnp V, mnq V, mco V, 1, va_up (mf V) 16 r, mg V)) ∧ va_S (mu_A (mW cA a V)) s.heap H locs ∧ lv_has ls 4 [(1, .int (nI (b + 1))), (0, .ref (a 0))]) ?_ (mnq V) ls H locs ⟨0, r, by omega, hk0, hP, hD, hS, (lv_sub hl [0, 1] rfl)⟩
      intro k42 ls H locs ⟨b, r, hkb, hk1, hP, hD, hS, hl⟩ ih42
      refine lv_iload_n hx hb dM_know_42 rfl (lv_at hl 0 rfl) ?_
      refine lv_aload_n hx hb dM_know_43 rfl (lv_at hl 1 rfl) ?_
      refine va_get (D := G) (ci := 1) (v := .int (nI (mnq V))) (C := RX1) (T := TM) (N := 18) hx hb hts hfi hown hK hP 0 rfl rfl 3 (by decide) (hts (.fieldLink RX1 71 "PortRulesModel" "ports" "I") (by decide +kernel)) (fun _ h9 => h9) rfl dM_know_44 ?_
      refine nb_gt (tgt := 146) hx hb dM_know_47 (by decide) (by omega) (by omega) (fun c47 => ?_) (fun c47 => ?_)
      · exact mu_vret ((mnp V, mnq V, mco V, 1, va_up (mf V) 16 r, mg V)) hx hb hr hS hP (⟨1, r, by decide, rfl, kn3_end (by rw [show b = mnq V by omega] at hk1; exact hk1)⟩) (rfl) dM_know_146 hlocks
      · obtain ⟨k42, rfl⟩ : ∃ z, k42 = z + 1 := ⟨k42 - 1, by omega⟩
        refine lv_iconst (v := nI 1) hx hb dM_know_50 (by decide) ?_
        refine lv_istore_n (lv' := [(2, .int (nI 1)), (1, .int (nI (b + 1))), (0, .ref (a 0))]) hx hb dM_know_51 rfl hl (by decide) rfl (fun ls hl => ?_)
        refine mu_loop (H0 := s.heap) (fun k ls H locs => ∃ (i : Nat) (r : Nat → Int32), 1 ≤ i ∧ i + k = mnq V + 1 ∧ kn3 (mL V) (mnq V) r b i 1 ∧ va_P G vwC2 (mW cA a (mnp V, mnq V, mco V, 1, va_up (mf V) 16 r, mg V)) H ∧ va_D (mu_A (mW cA a V)) (mW cA a (mnp V, mnq V, mco V, 1, va_up (mf V) 16 r, mg V)) ∧ va_S (mu_A (mW cA a V)) s.heap H locs ∧ lv_has ls 4 [(2, .int (nI i)), (1, .int (nI (b + 1))), (0, .ref (a 0))]) ?_ (mnq V) ls H locs ⟨1, r, by omega, by omega, hk1, hP, hD, hS, (lv_sub hl [0, 1, 2] rfl)⟩
        intro k52 ls H locs ⟨i, r, hi, hki, hk2, hP, hD, hS, hl⟩ ih52
        refine lv_iload_n hx hb dM_know_52 rfl (lv_at hl 0 rfl) ?_
        refine lv_aload_n hx hb dM_know_53 rfl (lv_at hl 2 rfl) ?_
        refine va_get (D := G) (ci := 1) (v := .int (nI (mnq V))) (C := RX1) (T := TM) (N := 18) hx hb hts hfi hown hK hP 0 rfl rfl 3 (by decide) (hts (.fieldLink RX1 71 "PortRulesModel" "ports" "I") (by decide +kernel)) (fun _ h9 => h9) rfl dM_know_54 ?_
        refine nb_gt (tgt := 140) hx hb dM_know_57 (by decide) (by omega) (by omega) (fun c57 => ?_) (fun c57 => ?_)
        · refine lv_iinc (v := nI (b + 1 + 1)) (lv' := [(1, .int (nI (b + 1 + 1))), (2, .int (nI i)), (0, .ref (a 0))]) hx hb dM_know_140 hl (k := 1) rfl (ni_inc _) (by decide) rfl (fun ls hl => ?_)
          refine lv_goto (tgt := 42) hx hb dM_know_143 (by decide) ?_
          exact ih42 k42 ls H locs (by omega) ⟨b + 1, r, by omega, kn3_by hk2 (by omega), hP, hD, hS, (lv_sub hl [0, 2] rfl)⟩
        · obtain ⟨k52, rfl⟩ : ∃ z, k52 = z + 1 := ⟨k52 - 1, by omega⟩
          refine lv_iconst (v := nI 1) hx hb dM_know_60 (by decide) ?_
          refine lv_istore_n (lv' := [(3, .int (nI 1)), (2, .int (nI i)), (1, .int (nI (b + 1))), (0, .ref (a 0))]) hx hb dM_know_61 rfl hl (by decide) rfl (fun ls hl => ?_)
          refine mu_loop (H0 := s.heap) (fun k ls H locs => ∃ (j : Nat) (r : Nat → Int32), 1 ≤ j ∧ j + k = mnq V + 1 ∧ kn3 (mL V) (mnq V) r b i j ∧ va_P G vwC2 (mW cA a (mnp V, mnq V, mco V, 1, va_up (mf V) 16 r, mg V)) H ∧ va_D (mu_A (mW cA a V)) (mW cA a (mnp V, mnq V, mco V, 1, va_up (mf V) 16 r, mg V)) ∧ va_S (mu_A (mW cA a V)) s.heap H locs ∧ lv_has ls 4 [(3, .int (nI j)), (2, .int (nI i)), (1, .int (nI (b + 1))), (0, .ref (a 0))]) ?_ (mnq V) ls H locs ⟨1, r, by omega, by omega, hk2, hP, hD, hS, (lv_sub hl [0, 1, 2, 3] rfl)⟩
          intro k62 ls H locs ⟨j, r, hj, hkj, hk3, hP, hD, hS, hl⟩ ih62
          refine lv_iload_n hx hb dM_know_62 rfl (lv_at hl 0 rfl) ?_
          refine lv_aload_n hx hb dM_know_63 rfl (lv_at hl 3 rfl) ?_
          refine va_get (D := G) (ci := 1) (v := .int (nI (mnq V))) (C := RX1) (T := TM) (N := 18) hx hb hts hfi hown hK hP 0 rfl rfl 3 (by decide) (hts (.fieldLink RX1 71 "PortRulesModel" "ports" "I") (by decide +kernel)) (fun _ h9 => h9) rfl dM_know_64 ?_
          refine nb_gt (tgt := 134) hx hb dM_know_67 (by decide) (by omega) (by omega) (fun c67 => ?_) (fun c67 => ?_)
          · refine lv_iinc (v := nI (i + 1)) (lv' := [(2, .int (nI (i + 1))), (3, .int (nI j)), (1, .int (nI (b + 1))), (0, .ref (a 0))]) hx hb dM_know_134 hl (k := 1) rfl (ni_inc _) (by decide) rfl (fun ls hl => ?_)
            refine lv_goto (tgt := 52) hx hb dM_know_137 (by decide) ?_
            exact ih52 k52 ls H locs (by omega) ⟨i + 1, r, by omega, by omega, kn3_next hk3 (by omega), hP, hD, hS, (lv_sub hl [0, 2, 3] rfl)⟩
          · obtain ⟨k62, rfl⟩ : ∃ z, k62 = z + 1 := ⟨k62 - 1, by omega⟩
            refine lv_aload_n hx hb dM_know_70 rfl (lv_at hl 3 rfl) ?_
            refine va_get (D := G) (ci := 1) (v := .ref (a 16)) (C := RX1) (T := TM) (N := 18) hx hb hts hfi hown hK hP 0 rfl rfl 16 (by decide) (hts (.fieldLink RX1 51 "PortRulesModel" "reaches" "[Z") (by decide +kernel)) (fun _ h9 => h9) rfl dM_know_71 ?_
            refine lv_bipush (v := nI 61) hx hb dM_know_74 (by decide) ?_
            refine lv_iload_n hx hb dM_know_76 rfl (lv_at hl 1 rfl) ?_
            refine lv_imul hx hb dM_know_77 ?_
            refine rd_topi (y := nI (61 * i)) (pk_mul _ _) ?_
            refine lv_iload_n hx hb dM_know_78 rfl (lv_at hl 2 rfl) ?_
            refine lv_iadd hx hb dM_know_79 ?_
            refine rd_topi (y := nI (61 * i + (b + 1))) (nI_add _ _) ?_
            refine rd_zald hx hb hK hP 14 1 rfl rfl (by omega) (by decide) dM_know_80 ?_
            refine lv_if_eq (tgt := 134) hx hb dM_know_81 (by decide) (fun c81 => ?_) (fun c81 => ?_)
            · refine lv_iinc (v := nI (i + 1)) (lv' := [(2, .int (nI (i + 1))), (3, .int (nI j)), (1, .int (nI (b + 1))), (0, .ref (a 0))]) hx hb dM_know_134 hl (k := 1) rfl (ni_inc _) (by decide) rfl (fun ls hl => ?_)
              refine lv_goto (tgt := 52) hx hb dM_know_137 (by decide) ?_
              exact ih52 k52 ls H locs (by omega) ⟨i + 1, r, by omega, by omega, kn3_skip hk3 (by omega) (by omega) (bv_f c81), hP, hD, hS, (lv_sub hl [0, 2, 3] rfl)⟩
            · refine lv_aload_n hx hb dM_know_84 rfl (lv_at hl 3 rfl) ?_
              refine va_get (D := G) (ci := 1) (v := .ref (a 16)) (C := RX1) (T := TM) (N := 18) hx hb hts hfi hown hK hP 0 rfl rfl 16 (by decide) (hts (.fieldLink RX1 51 "PortRulesModel" "reaches" "[Z") (by decide +kernel)) (fun _ h9 => h9) rfl dM_know_85 ?_
              refine lv_bipush (v := nI 61) hx hb dM_know_88 (by decide) ?_
              refine lv_iload_n hx hb dM_know_90 rfl (lv_at hl 1 rfl) ?_
              refine lv_imul hx hb dM_know_91 ?_
              refine rd_topi (y := nI (61 * i)) (pk_mul _ _) ?_
              refine lv_iload_n hx hb dM_know_92 rfl (lv_at hl 0 rfl) ?_
              refine lv_iadd hx hb dM_know_93 ?_
              refine rd_topi (y := nI (61 * i + j)) (nI_add _ _) ?_
              refine lv_aload_n hx hb dM_know_94 rfl (lv_at hl 3 rfl) ?_
              refine va_get (D := G) (ci := 1) (v := .ref (a 16)) (C := RX1) (T := TM) (N := 18) hx hb hts hfi hown hK hP 0 rfl rfl 16 (by decide) (hts (.fieldLink RX1 51 "PortRulesModel" "reaches" "[Z") (by decide +kernel)) (fun _ h9 => h9) rfl dM_know_95 ?_
              refine lv_bipush (v := nI 61) hx hb dM_know_98 (by decide) ?_
              refine lv_iload_n hx hb dM_know_100 rfl (lv_at hl 1 rfl) ?_
              refine lv_imul hx hb dM_know_101 ?_
              refine rd_topi (y := nI (61 * i)) (pk_mul _ _) ?_
              refine lv_iload_n hx hb dM_know_102 rfl (lv_at hl 0 rfl) ?_
              refine lv_iadd hx hb dM_know_103 ?_
              refine rd_topi (y := nI (61 * i + j)) (nI_add _ _) ?_
              refine rd_zald hx hb hK hP 14 1 rfl rfl (by omega) (by decide) dM_know_104 ?_
              refine lv_if_ne (tgt := 122) hx hb dM_know_105 (by decide) (fun c105 => ?_) (fun c105 => ?_)
              · refine lv_iconst (v := 1) hx hb dM_know_122 (by decide) ?_
                refine lv_goto (tgt := 127) hx hb dM_know_123 (by decide) ?_
                refine mu_zast hx hb hK hP hD hS 14 1 rfl rfl (by omega) (by decide) rfl dM_know_127 (ws1 := mW cA a (mnp V, mnq V, mco V, 1, va_up (mf V) 16 (upd (r) (61 * i + j) 1), mg V)) rfl (fun H locs hP hD hS => ?_)
                refine lv_iinc (v := nI (j + 1)) (lv' := [(3, .int (nI (j + 1))), (2, .int (nI i)), (1, .int (nI (b + 1))), (0, .ref (a 0))]) hx hb dM_know_128 hl (k := 0) rfl (ni_inc _) (by decide) rfl (fun ls hl => ?_)
                refine lv_goto (tgt := 62) hx hb dM_know_131 (by decide) ?_
                exact ih62 k62 ls H locs (by omega) ⟨j + 1, upd r (61 * i + j) 1, by omega, by omega, kn3_set hk3 h60 (by omega) (by omega) (by omega) (bv_t c81) (by rw [bv_t (r := r) (p := i) (q := j) c105]; rfl), hP, hD, hS, (lv_sub hl [0, 1, 2, 3] rfl)⟩
              · refine lv_aload_n hx hb dM_know_108 rfl (lv_at hl 3 rfl) ?_
                refine va_get (D := G) (ci := 1) (v := .ref (a 16)) (C := RX1) (T := TM) (N := 18) hx hb hts hfi hown hK hP 0 rfl rfl 16 (by decide) (hts (.fieldLink RX1 51 "PortRulesModel" "reaches" "[Z") (by decide +kernel)) (fun _ h9 => h9) rfl dM_know_109 ?_
                refine lv_bipush (v := nI 61) hx hb dM_know_112 (by decide) ?_
                refine lv_iload_n hx hb dM_know_114 rfl (lv_at hl 2 rfl) ?_
                refine lv_imul hx hb dM_know_115 ?_
                refine rd_topi (y := nI (61 * (b + 1))) (pk_mul _ _) ?_
                refine lv_iload_n hx hb dM_know_116 rfl (lv_at hl 0 rfl) ?_
                refine lv_iadd hx hb dM_know_117 ?_
                refine rd_topi (y := nI (61 * (b + 1) + j)) (nI_add _ _) ?_
                refine rd_zald hx hb hK hP 14 1 rfl rfl (by omega) (by decide) dM_know_118 ?_
                refine lv_if_eq (tgt := 126) hx hb dM_know_119 (by decide) (fun c119 => ?_) (fun c119 => ?_)
                · refine lv_iconst (v := 0) hx hb dM_know_126 (by decide) ?_
                  refine mu_zast hx hb hK hP hD hS 14 1 rfl rfl (by omega) (by decide) rfl dM_know_127 (ws1 := mW cA a (mnp V, mnq V, mco V, 1, va_up (mf V) 16 (upd (r) (61 * i + j) 0), mg V)) rfl (fun H locs hP hD hS => ?_)
                  refine lv_iinc (v := nI (j + 1)) (lv' := [(3, .int (nI (j + 1))), (2, .int (nI i)), (1, .int (nI (b + 1))), (0, .ref (a 0))]) hx hb dM_know_128 hl (k := 0) rfl (ni_inc _) (by decide) rfl (fun ls hl => ?_)
                  refine lv_goto (tgt := 62) hx hb dM_know_131 (by decide) ?_
                  exact ih62 k62 ls H locs (by omega) ⟨j + 1, upd r (61 * i + j) 0, by omega, by omega, kn3_set hk3 h60 (by omega) (by omega) (by omega) (bv_t c81) (by rw [bv_f (r := r) (p := i) (q := j) c105, bv_f (r := r) (p := b + 1) (q := j) c119]; rfl), hP, hD, hS, (lv_sub hl [0, 1, 2, 3] rfl)⟩
                · refine lv_iconst (v := 1) hx hb dM_know_122 (by decide) ?_
                  refine lv_goto (tgt := 127) hx hb dM_know_123 (by decide) ?_
                  refine mu_zast hx hb hK hP hD hS 14 1 rfl rfl (by omega) (by decide) rfl dM_know_127 (ws1 := mW cA a (mnp V, mnq V, mco V, 1, va_up (mf V) 16 (upd (r) (61 * i + j) 1), mg V)) rfl (fun H locs hP hD hS => ?_)
                  refine lv_iinc (v := nI (j + 1)) (lv' := [(3, .int (nI (j + 1))), (2, .int (nI i)), (1, .int (nI (b + 1))), (0, .ref (a 0))]) hx hb dM_know_128 hl (k := 0) rfl (ni_inc _) (by decide) rfl (fun ls hl => ?_)
                  refine lv_goto (tgt := 62) hx hb dM_know_131 (by decide) ?_
                  exact ih62 k62 ls H locs (by omega) ⟨j + 1, upd r (61 * i + j) 1, by omega, by omega, kn3_set hk3 h60 (by omega) (by omega) (by omega) (bv_t c81) (by rw [bv_f (r := r) (p := i) (q := j) c105, bv_t (r := r) (p := b + 1) (q := j) c119]; rfl), hP, hD, hS, (lv_sub hl [0, 1, 2, 3] rfl)⟩
    · obtain ⟨k15, rfl⟩ : ∃ z, k15 = z + 1 := ⟨k15 - 1, by omega⟩
      refine lv_aload_n hx hb dM_know_22 rfl (lv_at hl 1 rfl) ?_
      refine va_get (D := G) (ci := 1) (v := .ref (a 16)) (C := RX1) (T := TM) (N := 18) hx hb hts hfi hown hK hP 0 rfl rfl 16 (by decide) (hts (.fieldLink RX1 51 "PortRulesModel" "reaches" "[Z") (by decide +kernel)) (fun _ h9 => h9) rfl dM_know_23 ?_
      refine lv_iload_n hx hb dM_know_26 rfl (lv_at hl 0 rfl) ?_
      refine lv_aload_n hx hb dM_know_27 rfl (lv_at hl 1 rfl) ?_
      refine va_get (D := G) (ci := 1) (v := .ref (a 15)) (C := RX1) (T := TM) (N := 18) hx hb hts hfi hown hK hP 0 rfl rfl 15 (by decide) (hts (.fieldLink RX1 48 "PortRulesModel" "leads" "[Z") (by decide +kernel)) (fun _ h9 => h9) rfl dM_know_28 ?_
      refine lv_iload_n hx hb dM_know_31 rfl (lv_at hl 0 rfl) ?_
      refine rd_zald hx hb hK hP 13 1 rfl rfl (by omega) (by decide) dM_know_32 ?_
      refine mu_zast hx hb hK hP hD hS 14 1 rfl rfl (by omega) (by decide) (mLb_n hlb (by omega)) dM_know_33 (ws1 := mW cA a (mnp V, mnq V, mco V, 1, va_up (mf V) 16 (upd (r) i (mf V 15 i)), mg V)) rfl (fun H locs hP hD hS => ?_)
      refine lv_iinc (v := nI (i + 1)) (lv' := [(1, .int (nI (i + 1))), (0, .ref (a 0))]) hx hb dM_know_34 hl (k := 0) rfl (ni_inc _) (by decide) rfl (fun ls hl => ?_)
      refine lv_goto (tgt := 15) hx hb dM_know_37 (by decide) ?_
      exact ih15 k15 ls H locs (by omega) ⟨i + 1, upd r i (mf V 15 i), by omega, fun j hj => by by_cases ej : j = i; (rw [ej]; exact pk_us); exact (pk_un ej).trans (hr9 j (by omega)), hP, hD, hS, (lv_sub hl [0, 1] rfl)⟩
  · exact mu_vret (V) hx hb hr hS hP (⟨mkn V, mf V 16, c4, by rw [va_up_id], hkv c4⟩) (rfl) dM_know_7 hlocks
set_option maxHeartbeats 4000000 in
set_option maxRecDepth 100000 in
theorem cm_leadTo (l : Launch) (G : va_G) (cA : Nat → ClassId) (a : Nat → Nat) (V : MV) (q0 : Nat) (h30 : mnp V ≤ 30) (h60 : mnq V ≤ 60) (hkv : ¬ mkn V = 0 → mKn V) (hlb : mLb V) (hq1 : 1 ≤ q0) (hq2 : q0 ≤ mnq V) : Met l yM_leadTo wsM_leadTo { frames := 2, cells := 0, slots := 0, locals := 45 } (mu_Pc G vwC2 (tT cA) (mW cA a V) [.ref (a 0), .int (nI q0)]) (mu_Q G vwC2 (mW cA a V) (fun _ => some (.int (nI (mTo V q0)))) (mKd V) (fun u9 => mW cA a u9)) 0 0 (mu_A (mW cA a V)) := by
  refine Met.ofW (cc := cM_leadTo) (maxL := 4) (ret := some .int) (by decide) rfl ?_
  intro p e s m args below meth c s₁ B hml hv
  obtain ⟨rfl, hP, hK, hD0⟩ := hv
  have hx := B.exec
  have hb := B.bytes
  have hr := B.returns
  have hts := atoms_spec (ws := wsM_leadTo) B.pre
  have hown : s.vm.findClass RX1 = some m.cls := findClass_of_methodNamed B.named
  have hlocks := B.notSynchronized
  have hD := mu_own hD0
  have hS : va_S (mu_A (mW cA a V)) s.heap s.heap [] := va_S.rf
  have hfi : ∀ w ∈ u_ws RX1 TM 18, w ∈ wsM_leadTo := fun w h => List.mem_cons_of_mem _ (wMA_f w h)
  have hl := lv_entry ([.ref (a 0), .int (nI q0)]) (n := 4) (Nat.le_of_ble_eq_true rfl)
  rw [lg_entry_eq]
  generalize (lg_sl ([.ref (a 0), .int (nI q0)]) ++ List.replicate (4 - (lg_sl ([.ref (a 0), .int (nI q0)])).length) Slot.unset).toArray = ls at hl ⊢
  have hl : lv_has ls 4 [(0, .ref (a 0)), (1, .int (nI q0))] := hl
  refine lv_aload_n hx hb dM_leadTo_0 rfl (lv_at hl 0 rfl) ?_
  refine mu_callV (As := []) (rest := []) (b := a 0) (q0 := 0) (ci := 1) ⟨hx, hb, hml, hown, hts⟩ (cm_know l G cA a V h60 hkv hlb) (cwV 0 hts gM_leadTo_M_know rfl rfl rfl (by decide +kernel) ⟨Nat.le_of_ble_eq_true rfl, Nat.le_of_ble_eq_true rfl⟩) hK hP hD hS rfl rfl rfl (fun _ _ => rfl) rfl hl.1 rfl (Nat.le_of_ble_eq_true rfl) dM_leadTo_1 ⟨Nat.zero_le _, Nat.zero_le _⟩ (fun u9 H locs hu9 hP hD hS => ?_)
  obtain ⟨kn, r, hk0, rfl, hkn⟩ := hu9
  have hP : va_P G vwC2 (mW cA a (mnp V, mnq V, mco V, kn, va_up (mf V) 16 r, mg V)) H := hP
  have hD : va_D (mu_A (mW cA a V)) (mW cA a (mnp V, mnq V, mco V, kn, va_up (mf V) 16 r, mg V)) := hD
  refine W.eq (g2 := F0 m 4 ls []) rfl ?_
  refine lv_iconst (v := nI 0) hx hb dM_leadTo_4 (by decide) ?_
  refine lv_istore_n (lv' := [(2, .int (nI 0)), (0, .ref (a 0)), (1, .int (nI q0))]) hx hb dM_leadTo_5 rfl hl (by decide) rfl (fun ls hl => ?_)
  refine lv_iconst (v := nI 1) hx hb dM_leadTo_6 (by decide) ?_
  refine lv_istore_n (lv' := [(3, .int (nI 1)), (2, .int (nI 0)), (0, .ref (a 0)), (1, .int (nI q0))]) hx hb dM_leadTo_7 rfl hl (by decide) rfl (fun ls hl => ?_)
  refine rd_loop (fun k ls => ∃ i n : Nat, 1 ≤ i ∧ i + k = mnq V + 1 ∧ n + pu_cnt (fun p0 => mF V p0 q0) k i = mTo V q0 ∧ lv_has ls 4 [(3, .int (nI i)), (2, .int (nI n)), (0, .ref (a 0)), (1, .int (nI q0))]) ?_ (mnq V) ls ⟨1, 0, by omega, by omega, Nat.zero_add _, (lv_sub hl [0, 1, 2, 3] rfl)⟩
  intro k8 ls ⟨i, n, hi, hk, hR, hl⟩ ih8
  refine lv_iload_n hx hb dM_leadTo_8 rfl (lv_at hl 0 rfl) ?_
  refine lv_aload_n hx hb dM_leadTo_9 rfl (lv_at hl 2 rfl) ?_
  refine va_get (D := G) (ci := 1) (v := .int (nI (mnq V))) (C := RX1) (T := TM) (N := 18) hx hb hts hfi hown hK hP 0 rfl rfl 3 (by decide) (hts (.fieldLink RX1 71 "PortRulesModel" "ports" "I") (by decide +kernel)) (fun _ h9 => h9) rfl dM_leadTo_10 ?_
  refine nb_gt (tgt := 39) hx hb dM_leadTo_13 (by decide) (by omega) (by omega) (fun c13 => ?_) (fun c13 => ?_)
  · refine lv_iload_n hx hb dM_leadTo_39 rfl (lv_at hl 1 rfl) ?_
    exact mu_iret ((mnp V, mnq V, mco V, kn, va_up (mf V) 16 r, mg V)) hx hb hr hS hP (⟨kn, r, hk0, rfl, hkn⟩) (by rw [← hR, show k8 = 0 by omega]; rfl) dM_leadTo_40 hlocks
  · obtain ⟨k8, rfl⟩ : ∃ z, k8 = z + 1 := ⟨k8 - 1, by omega⟩
    refine lv_iload_n hx hb dM_leadTo_16 rfl (lv_at hl 1 rfl) ?_
    refine lv_aload_n hx hb dM_leadTo_17 rfl (lv_at hl 2 rfl) ?_
    refine lv_iload_n hx hb dM_leadTo_18 rfl (lv_at hl 0 rfl) ?_
    refine lv_iload_n hx hb dM_leadTo_19 rfl (lv_at hl 3 rfl) ?_
    refine rd_callV (As := [.int (nI i), .int (nI q0)]) (rest := [.int (nI n)]) (b := a 0) (q0 := 0) (ci := 1) ⟨hx, hb, hml, hown, hts⟩ (cm_isFlat l G cA a ((mnp V, mnq V, mco V, kn, va_up (mf V) 16 r, mg V)) i q0 h30 h60 hkn (by omega) (by omega) (by omega) (by omega)) (cwV 2 hts gM_leadTo_M_isFlat rfl rfl rfl (by decide +kernel) ⟨Nat.le_of_ble_eq_true rfl, Nat.le_of_ble_eq_true rfl⟩) hK hP rfl rfl rfl rfl hl.1 rfl (Nat.le_of_ble_eq_true rfl) dM_leadTo_20 ⟨Nat.zero_le _, Nat.zero_le _⟩ ?_
    refine bb_eq (b := (mF V i q0)) (tgt := 30) hx hb dM_leadTo_23 (by decide) (fun c23 => ?_) (fun c23 => ?_)
    · refine lv_iconst (v := nI 0) hx hb dM_leadTo_30 (by decide) ?_
      refine lv_iadd hx hb dM_leadTo_31 ?_
      refine rd_topi (y := nI n) (nI_add n 0) ?_
      refine lv_istore_n (lv' := [(2, .int (nI n)), (3, .int (nI i)), (0, .ref (a 0)), (1, .int (nI q0))]) hx hb dM_leadTo_32 rfl hl (by decide) rfl (fun ls hl => ?_)
      refine lv_iinc (v := nI (i + 1)) (lv' := [(3, .int (nI (i + 1))), (2, .int (nI n)), (0, .ref (a 0)), (1, .int (nI q0))]) hx hb dM_leadTo_33 hl (k := 1) rfl (ni_inc _) (by decide) rfl (fun ls hl => ?_)
      refine lv_goto (tgt := 8) hx hb dM_leadTo_36 (by decide) ?_
      exact ih8 k8 ls (by omega) ⟨i + 1, n, by omega, by omega, by have h := pu_cnt_f (k := k8) (P := fun p0 => mF V p0 q0) (i := i) c23; omega, (lv_sub hl [0, 1, 2, 3] rfl)⟩
    · refine lv_iconst (v := nI 1) hx hb dM_leadTo_26 (by decide) ?_
      refine lv_goto (tgt := 31) hx hb dM_leadTo_27 (by decide) ?_
      refine lv_iadd hx hb dM_leadTo_31 ?_
      refine rd_topi (y := nI (n + 1)) (nI_add n 1) ?_
      refine lv_istore_n (lv' := [(2, .int (nI (n + 1))), (3, .int (nI i)), (0, .ref (a 0)), (1, .int (nI q0))]) hx hb dM_leadTo_32 rfl hl (by decide) rfl (fun ls hl => ?_)
      refine lv_iinc (v := nI (i + 1)) (lv' := [(3, .int (nI (i + 1))), (2, .int (nI (n + 1))), (0, .ref (a 0)), (1, .int (nI q0))]) hx hb dM_leadTo_33 hl (k := 1) rfl (ni_inc _) (by decide) rfl (fun ls hl => ?_)
      refine lv_goto (tgt := 8) hx hb dM_leadTo_36 (by decide) ?_
      exact ih8 k8 ls (by omega) ⟨i + 1, n + 1, by omega, by omega, by have h := pu_cnt_t (k := k8) (P := fun p0 => mF V p0 q0) (i := i) c23; omega, (lv_sub hl [0, 1, 2, 3] rfl)⟩
