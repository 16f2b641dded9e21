/-! M: flat, flatten, at, check, open -/
set_option maxHeartbeats 4000000 in
set_option maxRecDepth 100000 in
theorem cm_flatN (l : Launch) (G : va_G) (cA : Nat → ClassId) (a : Nat → Nat) (V : MV) (x : Int32) (h30 : mnp V ≤ 30) (h60 : mnq V ≤ 60) (hkv : ¬ mkn V = 0 → mKn V) (hlb : mLb V) (hneg : x.toInt < 0) : Met l yM_flat wsM_flat { frames := 2, cells := 0, slots := 0, locals := 45 } (mu_Pc G vwC2 (tT cA) (mW cA a V) [.ref (a 0), .int x]) (mu_Q G vwC2 (mW cA a V) (fun _ => some (.int (mFl V x))) (mKd V) (fun u9 => mW cA a u9)) 0 0 (mu_A (mW cA a V)) := by
  refine Met.ofW (cc := cM_flat) (maxL := 5) (ret := some .int) (by decide) rfl ?_
  intro p e s m args below meth c s₁ B hml hv
  obtain ⟨rfl, hP, hK, hD0⟩ := hv
  have hx := B.exec
  have hb := B.bytes
  have hr := B.returns
  have hts := atoms_spec (ws := wsM_flat) B.pre
  have hown : s.vm.findClass RX1 = some m.cls := findClass_of_methodNamed B.named
  have hlocks := B.notSynchronized
  have hD := mu_own hD0
  have hS : va_S (mu_A (mW cA a V)) s.heap s.heap [] := va_S.rf
  have hfi : ∀ w ∈ u_ws RX1 TM 18, w ∈ wsM_flat := fun w h => List.mem_cons_of_mem _ (wMA_f w h)
  have hl := lv_entry ([.ref (a 0), .int x]) (n := 5) (Nat.le_of_ble_eq_true rfl)
  rw [lg_entry_eq]
  generalize (lg_sl ([.ref (a 0), .int x]) ++ List.replicate (5 - (lg_sl ([.ref (a 0), .int x])).length) Slot.unset).toArray = ls at hl ⊢
  have hl : lv_has ls 5 [(0, .ref (a 0)), (1, .int x)] := hl
  have hall := mAll_le V h60
  refine lv_aload_n hx hb dM_flat_0 rfl (lv_at hl 0 rfl) ?_
  refine mu_callV (As := []) (rest := []) (b := a 0) (q0 := 0) (ci := 1) ⟨hx, hb, hml, hown, hts⟩ (cm_know l G cA a V h60 hkv hlb) (cwV 0 hts gM_flat_M_know rfl rfl rfl (by decide +kernel) ⟨Nat.le_of_ble_eq_true rfl, Nat.le_of_ble_eq_true rfl⟩) hK hP hD hS rfl rfl rfl (fun _ _ => rfl) rfl hl.1 rfl (Nat.le_of_ble_eq_true rfl) dM_flat_1 ⟨Nat.zero_le _, Nat.zero_le _⟩ (fun u9 H locs hu9 hP hD hS => ?_)
  obtain ⟨kn, r, hk0, rfl, hkn⟩ := hu9
  have hP : va_P G vwC2 (mW cA a (mnp V, mnq V, mco V, kn, va_up (mf V) 16 r, mg V)) H := hP
  have hD : va_D (mu_A (mW cA a V)) (mW cA a (mnp V, mnq V, mco V, kn, va_up (mf V) 16 r, mg V)) := hD
  refine W.eq (g2 := F0 m 4 ls []) rfl ?_
  refine lv_iconst (v := nI 0) hx hb dM_flat_4 (by decide) ?_
  refine lv_istore_n (lv' := [(2, .int (nI 0)), (0, .ref (a 0)), (1, .int x)]) hx hb dM_flat_5 rfl hl (by decide) rfl (fun ls hl => ?_)
  refine lv_iconst (v := nI 1) hx hb dM_flat_6 (by decide) ?_
  refine lv_istore_n (lv' := [(3, .int (nI 1)), (2, .int (nI 0)), (0, .ref (a 0)), (1, .int x)]) hx hb dM_flat_7 rfl hl (by decide) rfl (fun ls hl => ?_)
  refine rd_loop (fun k ls => ∃ i n : Nat, 1 ≤ i ∧ i + k = mnq V + 1 ∧ n + pu_sum (fun p0 => pu_cnt (mF V p0) (mnq V) 1) k i = mAll V ∧ lv_has ls 5 [(3, .int (nI i)), (2, .int (nI n)), (0, .ref (a 0)), (1, .int x)]) ?_ (mnq V) ls ⟨1, 0, by omega, by omega, Nat.zero_add _, (lv_sub hl [0, 1, 2, 3] rfl)⟩
  intro k8 ls ⟨i, n, hi, hk, hR, hl⟩ ih8
  refine lv_iload_n hx hb dM_flat_8 rfl (lv_at hl 0 rfl) ?_
  refine lv_aload_n hx hb dM_flat_9 rfl (lv_at hl 2 rfl) ?_
  refine va_get (D := G) (ci := 1) (v := .int (nI (mnq V))) (C := RX1) (T := TM) (N := 18) hx hb hts hfi hown hK hP 0 rfl rfl 3 (by decide) (hts (.fieldLink RX1 71 "PortRulesModel" "ports" "I") (by decide +kernel)) (fun _ h9 => h9) rfl dM_flat_10 ?_
  refine nb_gt (tgt := 66) hx hb dM_flat_13 (by decide) (by omega) (by omega) (fun c13 => ?_) (fun c13 => ?_)
  · refine lv_iload_n hx hb dM_flat_66 rfl (lv_at hl 1 rfl) ?_
    refine lv_sipush (v := 10000) hx hb dM_flat_67 (by decide) ?_
    refine lv_isub hx hb dM_flat_70 ?_
    exact mu_iret ((mnp V, mnq V, mco V, kn, va_up (mf V) 16 r, mg V)) hx hb hr hS hP (⟨kn, r, hk0, rfl, hkn⟩) (by rw [mFl_0 (mFc_n hneg), ← hR, show k8 = 0 by omega]; rfl) dM_flat_71 hlocks
  · obtain ⟨k8, rfl⟩ : ∃ z, k8 = z + 1 := ⟨k8 - 1, by omega⟩
    refine lv_iconst (v := nI 1) hx hb dM_flat_16 (by decide) ?_
    refine lv_istore (lv' := [(4, .int (nI 1)), (3, .int (nI i)), (2, .int (nI n)), (0, .ref (a 0)), (1, .int x)]) hx hb dM_flat_17 hl (by decide) rfl (fun ls hl => ?_)
    refine rd_loop (fun k ls => ∃ j m0 : Nat, 1 ≤ j ∧ j + k = mnq V + 1 ∧ m0 + pu_cnt (mF V i) k j = n + pu_cnt (mF V i) (mnq V) 1 ∧ lv_has ls 5 [(4, .int (nI j)), (2, .int (nI m0)), (3, .int (nI i)), (0, .ref (a 0)), (1, .int x)]) ?_ (mnq V) ls ⟨1, n, by omega, by omega, rfl, (lv_sub hl [0, 2, 1, 3, 4] rfl)⟩
    intro k19 ls ⟨j, m0, hj, hkj, hC, hl⟩ ih19
    refine lv_iload hx hb dM_flat_19 (lv_at hl 0 rfl) ?_
    refine lv_aload_n hx hb dM_flat_21 rfl (lv_at hl 3 rfl) ?_
    refine va_get (D := G) (ci := 1) (v := .int (nI (mnq V))) (C := RX1) (T := TM) (N := 18) hx hb hts hfi hown hK hP 0 rfl rfl 3 (by decide) (hts (.fieldLink RX1 71 "PortRulesModel" "ports" "I") (by decide +kernel)) (fun _ h9 => h9) rfl dM_flat_22 ?_
    refine nb_gt (tgt := 60) hx hb dM_flat_25 (by decide) (by omega) (by omega) (fun c25 => ?_) (fun c25 => ?_)
    · refine lv_iinc (v := nI (i + 1)) (lv' := [(3, .int (nI (i + 1))), (4, .int (nI j)), (2, .int (nI m0)), (0, .ref (a 0)), (1, .int x)]) hx hb dM_flat_60 hl (k := 2) rfl (ni_inc _) (by decide) rfl (fun ls hl => ?_)
      refine lv_goto (tgt := 8) hx hb dM_flat_63 (by decide) ?_
      exact ih8 k8 ls (by omega) ⟨i + 1, m0, by omega, by omega, by have h0 : pu_cnt (mF V i) k19 j = 0 := (by rw [show k19 = 0 by omega]; rfl); simp only [pu_sum] at hR; omega, (lv_sub hl [0, 2, 3, 4] rfl)⟩
    · obtain ⟨k19, rfl⟩ : ∃ z, k19 = z + 1 := ⟨k19 - 1, by omega⟩
      refine lv_aload_n hx hb dM_flat_28 rfl (lv_at hl 3 rfl) ?_
      refine lv_iload_n hx hb dM_flat_29 rfl (lv_at hl 2 rfl) ?_
      refine lv_iload hx hb dM_flat_30 (lv_at hl 0 rfl) ?_
      refine rd_callV (As := [.int (nI i), .int (nI j)]) (rest := []) (b := a 0) (q0 := 0) (ci := 1) ⟨hx, hb, hml, hown, hts⟩ (cm_isFlat l G cA a ((mnp V, mnq V, mco V, kn, va_up (mf V) 16 r, mg V)) i j h30 h60 hkn (by omega) (by omega) (by omega) (by omega)) (cwV 2 hts gM_flat_M_isFlat rfl rfl rfl (by decide +kernel) ⟨Nat.le_of_ble_eq_true rfl, Nat.le_of_ble_eq_true rfl⟩) hK hP rfl rfl rfl rfl hl.1 rfl (Nat.le_of_ble_eq_true rfl) dM_flat_32 ⟨Nat.zero_le _, Nat.zero_le _⟩ ?_
      refine bb_eq (b := (mF V i j)) (tgt := 54) hx hb dM_flat_35 (by decide) (fun c35 => ?_) (fun c35 => ?_)
      · refine lv_iinc (v := nI (j + 1)) (lv' := [(4, .int (nI (j + 1))), (2, .int (nI m0)), (3, .int (nI i)), (0, .ref (a 0)), (1, .int x)]) hx hb dM_flat_54 hl (k := 0) rfl (ni_inc _) (by decide) rfl (fun ls hl => ?_)
        refine lv_goto (tgt := 19) hx hb dM_flat_57 (by decide) ?_
        exact ih19 k19 ls (by omega) ⟨j + 1, m0, by omega, by omega, by have h := pu_cnt_f (k := k19) (P := mF V i) (i := j) c35; omega, (lv_sub hl [0, 1, 2, 3, 4] rfl)⟩
      · refine lv_iload_n hx hb dM_flat_38 rfl (lv_at hl 1 rfl) ?_
        refine lv_iload_n hx hb dM_flat_39 rfl (lv_at hl 4 rfl) ?_
        refine lv_icmp_ne (tgt := 51) hx hb dM_flat_40 (by decide) (fun c40 => ?_) (fun c40 => ?_)
        · refine lv_iinc (v := nI (m0 + 1)) (lv' := [(2, .int (nI (m0 + 1))), (4, .int (nI j)), (3, .int (nI i)), (0, .ref (a 0)), (1, .int x)]) hx hb dM_flat_51 hl (k := 1) rfl (ni_inc _) (by decide) rfl (fun ls hl => ?_)
          refine lv_iinc (v := nI (j + 1)) (lv' := [(4, .int (nI (j + 1))), (2, .int (nI (m0 + 1))), (3, .int (nI i)), (0, .ref (a 0)), (1, .int x)]) hx hb dM_flat_54 hl (k := 1) rfl (ni_inc _) (by decide) rfl (fun ls hl => ?_)
          refine lv_goto (tgt := 19) hx hb dM_flat_57 (by decide) ?_
          exact ih19 k19 ls (by omega) ⟨j + 1, m0 + 1, by omega, by omega, by have h := pu_cnt_t (k := k19) (P := mF V i) (i := j) c35; omega, (lv_sub hl [0, 1, 2, 3, 4] rfl)⟩
        · have hcn := pu_cnt_le (mF V i) (mnq V) 1
          exact absurd (congrArg Int32.toInt c40) (by rw [nI_toInt (by omega)]; omega)
set_option maxHeartbeats 4000000 in
set_option maxRecDepth 100000 in
theorem cm_flatT (l : Launch) (G : va_G) (cA : Nat → ClassId) (a : Nat → Nat) (V : MV) (t : Nat) (h30 : mnp V ≤ 30) (h60 : mnq V ≤ 60) (hkv : ¬ mkn V = 0 → mKn V) (hlb : mLb V) (ht : t < 2 ^ 31) : Met l yM_flat wsM_flat { frames := 2, cells := 0, slots := 0, locals := 45 } (mu_Pc G vwC2 (tT cA) (mW cA a V) [.ref (a 0), .int (nI t)]) (mu_Q G vwC2 (mW cA a V) (fun _ => some (.int (mFl V (nI t)))) (mKd V) (fun u9 => mW cA a u9)) 0 0 (mu_A (mW cA a V)) := by
  refine Met.ofW (cc := cM_flat) (maxL := 5) (ret := some .int) (by decide) rfl ?_
  intro p e s m args below meth c s₁ B hml hv
  obtain ⟨rfl, hP, hK, hD0⟩ := hv
  have hx := B.exec
  have hb := B.bytes
  have hr := B.returns
  have hts := atoms_spec (ws := wsM_flat) B.pre
  have hown : s.vm.findClass RX1 = some m.cls := findClass_of_methodNamed B.named
  have hlocks := B.notSynchronized
  have hD := mu_own hD0
  have hS : va_S (mu_A (mW cA a V)) s.heap s.heap [] := va_S.rf
  have hfi : ∀ w ∈ u_ws RX1 TM 18, w ∈ wsM_flat := fun w h => List.mem_cons_of_mem _ (wMA_f w h)
  have hl := lv_entry ([.ref (a 0), .int (nI t)]) (n := 5) (Nat.le_of_ble_eq_true rfl)
  rw [lg_entry_eq]
  generalize (lg_sl ([.ref (a 0), .int (nI t)]) ++ List.replicate (5 - (lg_sl ([.ref (a 0), .int (nI t)])).length) Slot.unset).toArray = ls at hl ⊢
  have hl : lv_has ls 5 [(0, .ref (a 0)), (1, .int (nI t))] := hl
  have hall := mAll_le V h60
  refine lv_aload_n hx hb dM_flat_0 rfl (lv_at hl 0 rfl) ?_
  refine mu_callV (As := []) (rest := []) (b := a 0) (q0 := 0) (ci := 1) ⟨hx, hb, hml, hown, hts⟩ (cm_know l G cA a V h60 hkv hlb) (cwV 0 hts gM_flat_M_know rfl rfl rfl (by decide +kernel) ⟨Nat.le_of_ble_eq_true rfl, Nat.le_of_ble_eq_true rfl⟩) hK hP hD hS rfl rfl rfl (fun _ _ => rfl) rfl hl.1 rfl (Nat.le_of_ble_eq_true rfl) dM_flat_1 ⟨Nat.zero_le _, Nat.zero_le _⟩ (fun u9 H locs hu9 hP hD hS => ?_)
  obtain ⟨kn, r, hk0, rfl, hkn⟩ := hu9
  have hP : va_P G vwC2 (mW cA a (mnp V, mnq V, mco V, kn, va_up (mf V) 16 r, mg V)) H := hP
  have hD : va_D (mu_A (mW cA a V)) (mW cA a (mnp V, mnq V, mco V, kn, va_up (mf V) 16 r, mg V)) := hD
  refine W.eq (g2 := F0 m 4 ls []) rfl ?_
  refine lv_iconst (v := nI 0) hx hb dM_flat_4 (by decide) ?_
  refine lv_istore_n (lv' := [(2, .int (nI 0)), (0, .ref (a 0)), (1, .int (nI t))]) hx hb dM_flat_5 rfl hl (by decide) rfl (fun ls hl => ?_)
  refine lv_iconst (v := nI 1) hx hb dM_flat_6 (by decide) ?_
  refine lv_istore_n (lv' := [(3, .int (nI 1)), (2, .int (nI 0)), (0, .ref (a 0)), (1, .int (nI t))]) hx hb dM_flat_7 rfl hl (by decide) rfl (fun ls hl => ?_)
  refine rd_loop (fun k ls => ∃ i n : Nat, 1 ≤ i ∧ i + k = mnq V + 1 ∧ n ≤ t ∧ n + pu_sum (fun p0 => pu_cnt (mF V p0) (mnq V) 1) k i = mAll V ∧ pu_at (mF V) (mnq V) k i (t - n) = pu_at (mF V) (mnq V) (mnq V) 1 t ∧ lv_has ls 5 [(3, .int (nI i)), (2, .int (nI n)), (0, .ref (a 0)), (1, .int (nI t))]) ?_ (mnq V) ls ⟨1, 0, by omega, by omega, by omega, Nat.zero_add _, rfl, (lv_sub hl [0, 1, 2, 3] rfl)⟩
  intro k8 ls ⟨i, n, hi, hk, hnt0, hR, hA, hl⟩ ih8
  refine lv_iload_n hx hb dM_flat_8 rfl (lv_at hl 0 rfl) ?_
  refine lv_aload_n hx hb dM_flat_9 rfl (lv_at hl 2 rfl) ?_
  refine va_get (D := G) (ci := 1) (v := .int (nI (mnq V))) (C := RX1) (T := TM) (N := 18) hx hb hts hfi hown hK hP 0 rfl rfl 3 (by decide) (hts (.fieldLink RX1 71 "PortRulesModel" "ports" "I") (by decide +kernel)) (fun _ h9 => h9) rfl dM_flat_10 ?_
  refine nb_gt (tgt := 66) hx hb dM_flat_13 (by decide) (by omega) (by omega) (fun c13 => ?_) (fun c13 => ?_)
  · refine lv_iload_n hx hb dM_flat_66 rfl (lv_at hl 1 rfl) ?_
    refine lv_sipush (v := 10000) hx hb dM_flat_67 (by decide) ?_
    refine lv_isub hx hb dM_flat_70 ?_
    exact mu_iret ((mnp V, mnq V, mco V, kn, va_up (mf V) 16 r, mg V)) hx hb hr hS hP (⟨kn, r, hk0, rfl, hkn⟩) (by rw [mFl_0 (by rw [mFc_t V ht, ← hA, show k8 = 0 by omega]; rfl), ← hR, show k8 = 0 by omega]; rfl) dM_flat_71 hlocks
  · obtain ⟨k8, rfl⟩ : ∃ z, k8 = z + 1 := ⟨k8 - 1, by omega⟩
    refine lv_iconst (v := nI 1) hx hb dM_flat_16 (by decide) ?_
    refine lv_istore (lv' := [(4, .int (nI 1)), (3, .int (nI i)), (2, .int (nI n)), (0, .ref (a 0)), (1, .int (nI t))]) hx hb dM_flat_17 hl (by decide) rfl (fun ls hl => ?_)
    refine rd_loop (fun k ls => ∃ j m0 : Nat, 1 ≤ j ∧ j + k = mnq V + 1 ∧ m0 ≤ t ∧ n ≤ m0 ∧ m0 + pu_cnt (mF V i) k j = n + pu_cnt (mF V i) (mnq V) 1 ∧ pu_nth (mF V i) k j (t - m0) = pu_nth (mF V i) (mnq V) 1 (t - n) ∧ lv_has ls 5 [(4, .int (nI j)), (2, .int (nI m0)), (3, .int (nI i)), (0, .ref (a 0)), (1, .int (nI t))]) ?_ (mnq V) ls ⟨1, n, by omega, by omega, by omega, by omega, rfl, rfl, (lv_sub hl [0, 2, 1, 3, 4] rfl)⟩
    intro k19 ls ⟨j, m0, hj, hkj, hmt, hnm, hC, hN, hl⟩ ih19
    refine lv_iload hx hb dM_flat_19 (lv_at hl 0 rfl) ?_
    refine lv_aload_n hx hb dM_flat_21 rfl (lv_at hl 3 rfl) ?_
    refine va_get (D := G) (ci := 1) (v := .int (nI (mnq V))) (C := RX1) (T := TM) (N := 18) hx hb hts hfi hown hK hP 0 rfl rfl 3 (by decide) (hts (.fieldLink RX1 71 "PortRulesModel" "ports" "I") (by decide +kernel)) (fun _ h9 => h9) rfl dM_flat_22 ?_
    refine nb_gt (tgt := 60) hx hb dM_flat_25 (by decide) (by omega) (by omega) (fun c25 => ?_) (fun c25 => ?_)
    · refine lv_iinc (v := nI (i + 1)) (lv' := [(3, .int (nI (i + 1))), (4, .int (nI j)), (2, .int (nI m0)), (0, .ref (a 0)), (1, .int (nI t))]) hx hb dM_flat_60 hl (k := 2) rfl (ni_inc _) (by decide) rfl (fun ls hl => ?_)
      refine lv_goto (tgt := 8) hx hb dM_flat_63 (by decide) ?_
      exact ih8 k8 ls (by omega) ⟨i + 1, m0, by omega, by omega, by omega, by have h0 : pu_cnt (mF V i) k19 j = 0 := (by rw [show k19 = 0 by omega]; rfl); simp only [pu_sum] at hR; omega, (by have h0 : pu_cnt (mF V i) k19 j = 0 := (by rw [show k19 = 0 by omega]; rfl); rw [← hA, pu_at_n (by omega)]; congr 1; omega), (lv_sub hl [0, 2, 3, 4] rfl)⟩
    · obtain ⟨k19, rfl⟩ : ∃ z, k19 = z + 1 := ⟨k19 - 1, by omega⟩
      refine lv_aload_n hx hb dM_flat_28 rfl (lv_at hl 3 rfl) ?_
      refine lv_iload_n hx hb dM_flat_29 rfl (lv_at hl 2 rfl) ?_
      refine lv_iload hx hb dM_flat_30 (lv_at hl 0 rfl) ?_
      refine rd_callV (As := [.int (nI i), .int (nI j)]) (rest := []) (b := a 0) (q0 := 0) (ci := 1) ⟨hx, hb, hml, hown, hts⟩ (cm_isFlat l G cA a ((mnp V, mnq V, mco V, kn, va_up (mf V) 16 r, mg V)) i j h30 h60 hkn (by omega) (by omega) (by omega) (by omega)) (cwV 2 hts gM_flat_M_isFlat rfl rfl rfl (by decide +kernel) ⟨Nat.le_of_ble_eq_true rfl, Nat.le_of_ble_eq_true rfl⟩) hK hP rfl rfl rfl rfl hl.1 rfl (Nat.le_of_ble_eq_true rfl) dM_flat_32 ⟨Nat.zero_le _, Nat.zero_le _⟩ ?_
      refine bb_eq (b := (mF V i j)) (tgt := 54) hx hb dM_flat_35 (by decide) (fun c35 => ?_) (fun c35 => ?_)
      · refine lv_iinc (v := nI (j + 1)) (lv' := [(4, .int (nI (j + 1))), (2, .int (nI m0)), (3, .int (nI i)), (0, .ref (a 0)), (1, .int (nI t))]) hx hb dM_flat_54 hl (k := 0) rfl (ni_inc _) (by decide) rfl (fun ls hl => ?_)
        refine lv_goto (tgt := 19) hx hb dM_flat_57 (by decide) ?_
        exact ih19 k19 ls (by omega) ⟨j + 1, m0, by omega, by omega, by omega, by omega, by have h := pu_cnt_f (k := k19) (P := mF V i) (i := j) c35; omega, (pu_nth_f c35).symm.trans hN, (lv_sub hl [0, 1, 2, 3, 4] rfl)⟩
      · refine lv_iload_n hx hb dM_flat_38 rfl (lv_at hl 1 rfl) ?_
        refine lv_iload_n hx hb dM_flat_39 rfl (lv_at hl 4 rfl) ?_
        refine nb_ne (tgt := 51) hx hb dM_flat_40 (by decide) (by have hcn := pu_cnt_le (mF V i) (mnq V) 1; omega) (by omega) (fun c40 => ?_) (fun c40 => ?_)
        · refine lv_iinc (v := nI (m0 + 1)) (lv' := [(2, .int (nI (m0 + 1))), (4, .int (nI j)), (3, .int (nI i)), (0, .ref (a 0)), (1, .int (nI t))]) hx hb dM_flat_51 hl (k := 1) rfl (ni_inc _) (by decide) rfl (fun ls hl => ?_)
          refine lv_iinc (v := nI (j + 1)) (lv' := [(4, .int (nI (j + 1))), (2, .int (nI (m0 + 1))), (3, .int (nI i)), (0, .ref (a 0)), (1, .int (nI t))]) hx hb dM_flat_54 hl (k := 1) rfl (ni_inc _) (by decide) rfl (fun ls hl => ?_)
          refine lv_goto (tgt := 19) hx hb dM_flat_57 (by decide) ?_
          exact ih19 k19 ls (by omega) ⟨j + 1, m0 + 1, by omega, by omega, by omega, by omega, by have h := pu_cnt_t (k := k19) (P := mF V i) (i := j) c35; omega, (show pu_nth (mF V i) k19 (j + 1) (t - (m0 + 1)) = _ by rw [show t - (m0 + 1) = t - m0 - 1 by omega]; exact (pu_nth_n c35 (by omega)).symm.trans hN), (lv_sub hl [0, 1, 2, 3, 4] rfl)⟩
        · refine lv_bipush (v := nI 61) hx hb dM_flat_43 (by decide) ?_
          refine lv_iload_n hx hb dM_flat_45 rfl (lv_at hl 2 rfl) ?_
          refine lv_imul hx hb dM_flat_46 ?_
          refine rd_topi (y := nI (61 * i)) (pk_mul _ _) ?_
          refine lv_iload hx hb dM_flat_47 (lv_at hl 0 rfl) ?_
          refine lv_iadd hx hb dM_flat_49 ?_
          refine rd_topi (y := nI (61 * i + j)) (nI_add _ _) ?_
          have hpt := pu_cnt_t (k := k19) (P := mF V i) (i := j) c35
          have hnt : pu_nth (mF V i) (mnq V) 1 (t - n) = j := hN.symm.trans (pu_nth_t c35 (by omega))
          have hat : mFc V (nI t) = 61 * i + j := by rw [mFc_t V ht, ← hA, pu_at_y (by omega), hnt]
          exact mu_iret ((mnp V, mnq V, mco V, kn, va_up (mf V) 16 r, mg V)) hx hb hr hS hP (⟨kn, r, hk0, rfl, hkn⟩) (by rw [mFl_n (by omega), hat]) dM_flat_50 hlocks
theorem cm_flat (l : Launch) (G : va_G) (cA : Nat → ClassId) (a : Nat → Nat) (V : MV) (x : Int32) (h30 : mnp V ≤ 30) (h60 : mnq V ≤ 60) (hkv : ¬ mkn V = 0 → mKn V) (hlb : mLb V) : Met l yM_flat wsM_flat { frames := 2, cells := 0, slots := 0, locals := 45 } (mu_Pc G vwC2 (tT cA) (mW cA a V) [.ref (a 0), .int x]) (mu_Q G vwC2 (mW cA a V) (fun _ => some (.int (mFl V x))) (mKd V) (fun u9 => mW cA a u9)) 0 0 (mu_A (mW cA a V)) := by
  rcases i32_neg x with h | ⟨t, ht, rfl⟩
  · exact cm_flatN l G cA a V x h30 h60 hkv hlb h
  · exact cm_flatT l G cA a V t h30 h60 hkv hlb ht
set_option maxHeartbeats 4000000 in
set_option maxRecDepth 100000 in
theorem cm_flatten (l : Launch) (G : va_G) (cA : Nat → ClassId) (a : Nat → Nat) (V : MV)  (h30 : mnp V ≤ 30) (h60 : mnq V ≤ 60) (hkv : ¬ mkn V = 0 → mKn V) (hlb : mLb V) : Met l yM_flatten wsM_flatten { frames := 3, cells := 0, slots := 0, locals := 69 } (mu_Pc G vwC2 (tT cA) (mW cA a V) [.ref (a 0)]) (mu_Q G vwC2 (mW cA a V) (fun _ => some (.int (nI (mAll V)))) (mUp V 0) (fun u9 => mW cA a u9)) 0 0 (mu_A (mW cA a V)) := by
  refine Met.ofW (cc := cM_flatten) (maxL := 1) (ret := some .int) (by decide) rfl ?_
  intro p e s m args below meth c s₁ B hml hv
  obtain ⟨rfl, hP, hK, hD0⟩ := hv
  have hx := B.exec
  have hb := B.bytes
  have hr := B.returns
  have hts := atoms_spec (ws := wsM_flatten) B.pre
  have hown : s.vm.findClass RX1 = some m.cls := findClass_of_methodNamed B.named
  have hlocks := B.notSynchronized
  have hD := mu_own hD0
  have hS : va_S (mu_A (mW cA a V)) s.heap s.heap [] := va_S.rf
  have hfi : ∀ w ∈ u_ws RX1 TM 18, w ∈ wsM_flatten := fun w h => List.mem_cons_of_mem _ (wMA_f w h)
  have hl := lv_entry ([.ref (a 0)]) (n := 1) (Nat.le_of_ble_eq_true rfl)
  rw [lg_entry_eq]
  generalize (lg_sl ([.ref (a 0)]) ++ List.replicate (1 - (lg_sl ([.ref (a 0)])).length) Slot.unset).toArray = ls at hl ⊢
  have hl : lv_has ls 1 [(0, .ref (a 0))] := hl
  refine lv_aload_n hx hb dM_flatten_0 rfl (lv_at hl 0 rfl) ?_
  refine lv_iconst (v := 0) hx hb dM_flatten_1 (by decide) ?_
  refine va_put (D := G) (ci := 1) (v := .int 0) (ty := .int) (C := RX1) (T := TM) (N := 18) hx hb hts hfi tyM tyM_ok nmM hown hK hP hD hS 0 rfl rfl 0 (by decide) (hts (.fieldLink RX1 54 "PortRulesModel" "code" "I") (by decide +kernel)) (fun _ h9 => h9) rfl (by decide +kernel) rfl rfl (Nat.le_of_ble_eq_true rfl) dM_flatten_2 (fun H locs hP hD hS => ?_)
  have hP : va_P G vwC2 (mW cA a (mnp V, mnq V, 0, mkn V, mf V, mg V)) H := hP
  have hD : va_D (mu_A (mW cA a V)) (mW cA a (mnp V, mnq V, 0, mkn V, mf V, mg V)) := hD
  refine lv_aload_n hx hb dM_flatten_5 rfl (lv_at hl 0 rfl) ?_
  refine lv_iconst (v := -1) hx hb dM_flatten_6 (by decide) ?_
  refine mu_callV (As := [.int (-1)]) (rest := []) (b := a 0) (q0 := 0) (ci := 1) ⟨hx, hb, hml, hown, hts⟩ (cm_flat l G cA a ((mnp V, mnq V, 0, mkn V, mf V, mg V)) (-1) h30 h60 hkv hlb) (cwV 1 hts gM_flatten_M_flat rfl rfl rfl (by decide +kernel) ⟨Nat.le_of_ble_eq_true rfl, Nat.le_of_ble_eq_true rfl⟩) hK hP hD hS rfl rfl rfl (fun _ _ => rfl) rfl hl.1 rfl (Nat.le_of_ble_eq_true rfl) dM_flatten_7 ⟨Nat.zero_le _, Nat.zero_le _⟩ (fun u9 H locs hu9 hP hD hS => ?_)
  obtain ⟨kn, r, hk0, rfl, hkn⟩ := hu9
  have hP : va_P G vwC2 (mW cA a (mnp V, mnq V, 0, kn, va_up (mf V) 16 r, mg V)) H := hP
  have hD : va_D (mu_A (mW cA a V)) (mW cA a (mnp V, mnq V, 0, kn, va_up (mf V) 16 r, mg V)) := hD
  have hkn : mKn (mnp V, mnq V, 0, kn, va_up (mf V) 16 r, mg V) := hkn
  refine W.eq (g2 := F0 m 10 ls [.int (mFl V (-1))]) rfl ?_
  refine lv_sipush (v := 10000) hx hb dM_flatten_10 (by decide) ?_
  refine lv_iadd hx hb dM_flatten_13 ?_
  exact mu_iret ((mnp V, mnq V, 0, kn, va_up (mf V) 16 r, mg V)) hx hb hr hS hP (⟨kn, r, rfl, fun _ => hkn⟩) (by rw [mFl_0 (mFc_n (by decide)), i32_sa]) dM_flatten_14 hlocks
set_option maxHeartbeats 4000000 in
set_option maxRecDepth 100000 in
theorem cm_at (l : Launch) (G : va_G) (cA : Nat → ClassId) (a : Nat → Nat) (V : MV) (x w0 : Int32) (h30 : mnp V ≤ 30) (h60 : mnq V ≤ 60) (hkv : ¬ mkn V = 0 → mKn V) (hlb : mLb V) : Met l yM_at wsM_at { frames := 3, cells := 0, slots := 0, locals := 69 } (mu_Pc G vwC2 (tT cA) (mW cA a V) [.ref (a 0), .int x, .int w0]) (mu_Q G vwC2 (mW cA a V) (fun _ => some (.int (mAtA V x w0))) (mUp V (mAtC V x)) (fun u9 => mW cA a u9)) 0 0 (mu_A (mW cA a V)) := by
  refine Met.ofW (cc := cM_at) (maxL := 4) (ret := some .int) (by decide) rfl ?_
  intro p e s m args below meth c s₁ B hml hv
  obtain ⟨rfl, hP, hK, hD0⟩ := hv
  have hx := B.exec
  have hb := B.bytes
  have hr := B.returns
  have hts := atoms_spec (ws := wsM_at) B.pre
  have hown : s.vm.findClass RX1 = some m.cls := findClass_of_methodNamed B.named
  have hlocks := B.notSynchronized
  have hD := mu_own hD0
  have hS : va_S (mu_A (mW cA a V)) s.heap s.heap [] := va_S.rf
  have hfi : ∀ w ∈ u_ws RX1 TM 18, w ∈ wsM_at := fun w h => List.mem_cons_of_mem _ (wMA_f w h)
  have hl := lv_entry ([.ref (a 0), .int x, .int w0]) (n := 4) (Nat.le_of_ble_eq_true rfl)
  rw [lg_entry_eq]
  generalize (lg_sl ([.ref (a 0), .int x, .int w0]) ++ List.replicate (4 - (lg_sl ([.ref (a 0), .int x, .int w0])).length) Slot.unset).toArray = ls at hl ⊢
  have hl : lv_has ls 4 [(0, .ref (a 0)), (1, .int x), (2, .int w0)] := hl
  have hall := mAll_le V h60
  have hfc := fun x => mFc_lt V x h60
  refine lv_iload_n hx hb dM_at_0 rfl (lv_at hl 1 rfl) ?_
  refine bz_ge (a := x.toInt) (tgt := 8) hx hb dM_at_1 (by decide) rfl (fun c1 => ?_) (fun c1 => ?_)
  · obtain ⟨t, ht, rfl⟩ := ni_pos c1
    have hft := mFc_lt V (nI t) h60
    refine lv_aload_n hx hb dM_at_8 rfl (lv_at hl 0 rfl) ?_
    refine lv_iload_n hx hb dM_at_9 rfl (lv_at hl 1 rfl) ?_
    refine mu_callV (As := [.int (nI t)]) (rest := []) (b := a 0) (q0 := 0) (ci := 1) ⟨hx, hb, hml, hown, hts⟩ (cm_flat l G cA a V (nI t) h30 h60 hkv hlb) (cwV 1 hts gM_at_M_flat rfl rfl rfl (by decide +kernel) ⟨Nat.le_of_ble_eq_true rfl, Nat.le_of_ble_eq_true rfl⟩) hK hP hD hS rfl rfl rfl (fun _ _ => rfl) rfl hl.1 rfl (Nat.le_of_ble_eq_true rfl) dM_at_10 ⟨Nat.zero_le _, Nat.zero_le _⟩ (fun u9 H locs hu9 hP hD hS => ?_)
    obtain ⟨kn, r, hk0, rfl, hkn⟩ := hu9
    have hP : va_P G vwC2 (mW cA a (mnp V, mnq V, mco V, kn, va_up (mf V) 16 r, mg V)) H := hP
    have hD : va_D (mu_A (mW cA a V)) (mW cA a (mnp V, mnq V, mco V, kn, va_up (mf V) 16 r, mg V)) := hD
    have hkn : mKn (mnp V, mnq V, mco V, kn, va_up (mf V) 16 r, mg V) := hkn
    refine W.eq (g2 := F0 m 13 ls [.int (mFl V (nI t))]) rfl ?_
    by_cases hc : mFc V (nI t) = 0
    · refine rd_topi (y := nI (mAll V) - nI 10000) (mFl_0 hc) ?_
      refine lv_istore_n (lv' := [(3, .int (nI (mAll V) - nI 10000)), (0, .ref (a 0)), (1, .int (nI t)), (2, .int w0)]) hx hb dM_at_13 rfl hl (by decide) rfl (fun ls hl => ?_)
      refine lv_aload_n hx hb dM_at_14 rfl (lv_at hl 1 rfl) ?_
      refine lv_iload_n hx hb dM_at_15 rfl (lv_at hl 0 rfl) ?_
      refine bz_ge (a := (((mAll V) : Nat) : Int) - ((10000 : Nat) : Int)) (tgt := 23) hx hb dM_at_16 (by decide) (pk_sub_toInt (by omega) (by omega)) (fun c16 => ?_) (fun c16 => ?_)
      · exact absurd c16 (by omega)
      · refine lv_iconst (v := 1) hx hb dM_at_19 (by decide) ?_
        refine lv_goto (tgt := 24) hx hb dM_at_20 (by decide) ?_
        refine va_put (D := G) (ci := 1) (v := .int 1) (ty := .int) (C := RX1) (T := TM) (N := 18) hx hb hts hfi tyM tyM_ok nmM hown hK hP hD hS 0 rfl rfl 0 (by decide) (hts (.fieldLink RX1 54 "PortRulesModel" "code" "I") (by decide +kernel)) (fun _ h9 => h9) rfl (by decide +kernel) rfl rfl (Nat.le_of_ble_eq_true rfl) dM_at_24 (fun H locs hP hD hS => ?_)
        have hP : va_P G vwC2 (mW cA a (mnp V, mnq V, 1, kn, va_up (mf V) 16 r, mg V)) H := hP
        have hD : va_D (mu_A (mW cA a V)) (mW cA a (mnp V, mnq V, 1, kn, va_up (mf V) 16 r, mg V)) := hD
        refine lv_aload_n hx hb dM_at_27 rfl (lv_at hl 1 rfl) ?_
        refine va_get (D := G) (ci := 1) (v := .int 1) (C := RX1) (T := TM) (N := 18) hx hb hts hfi hown hK hP 0 rfl rfl 0 (by decide) (hts (.fieldLink RX1 54 "PortRulesModel" "code" "I") (by decide +kernel)) (fun _ h9 => h9) rfl dM_at_28 ?_
        refine lv_if_le (tgt := 38) hx hb dM_at_31 (by decide) (fun c31 => absurd c31 (by decide)) (fun _ => ?_)
        refine lv_iconst (v := 0) hx hb dM_at_34 (by decide) ?_
        refine lv_goto (tgt := 53) hx hb dM_at_35 (by decide) ?_
        exact mu_iret ((mnp V, mnq V, 1, kn, va_up (mf V) 16 r, mg V)) hx hb hr hS hP (⟨kn, r, by rw [mAtC_0 hc], fun _ => hkn⟩) (by rw [mAtA_0 hc]) dM_at_53 hlocks
    · refine rd_topi (y := nI (mFc V (nI t))) (mFl_n hc) ?_
      refine lv_istore_n (lv' := [(3, .int (nI (mFc V (nI t)))), (0, .ref (a 0)), (1, .int (nI t)), (2, .int w0)]) hx hb dM_at_13 rfl hl (by decide) rfl (fun ls hl => ?_)
      refine lv_aload_n hx hb dM_at_14 rfl (lv_at hl 1 rfl) ?_
      refine lv_iload_n hx hb dM_at_15 rfl (lv_at hl 0 rfl) ?_
      refine bz_ge (a := (((mFc V (nI t)) : Nat) : Int)) (tgt := 23) hx hb dM_at_16 (by decide) (nI_toInt (by omega)) (fun c16 => ?_) (fun c16 => ?_)
      · refine lv_iconst (v := 0) hx hb dM_at_23 (by decide) ?_
        refine va_put (D := G) (ci := 1) (v := .int 0) (ty := .int) (C := RX1) (T := TM) (N := 18) hx hb hts hfi tyM tyM_ok nmM hown hK hP hD hS 0 rfl rfl 0 (by decide) (hts (.fieldLink RX1 54 "PortRulesModel" "code" "I") (by decide +kernel)) (fun _ h9 => h9) rfl (by decide +kernel) rfl rfl (Nat.le_of_ble_eq_true rfl) dM_at_24 (fun H locs hP hD hS => ?_)
        have hP : va_P G vwC2 (mW cA a (mnp V, mnq V, 0, kn, va_up (mf V) 16 r, mg V)) H := hP
        have hD : va_D (mu_A (mW cA a V)) (mW cA a (mnp V, mnq V, 0, kn, va_up (mf V) 16 r, mg V)) := hD
        refine lv_aload_n hx hb dM_at_27 rfl (lv_at hl 1 rfl) ?_
        refine va_get (D := G) (ci := 1) (v := .int 0) (C := RX1) (T := TM) (N := 18) hx hb hts hfi hown hK hP 0 rfl rfl 0 (by decide) (hts (.fieldLink RX1 54 "PortRulesModel" "code" "I") (by decide +kernel)) (fun _ h9 => h9) rfl dM_at_28 ?_
        refine lv_if_le (tgt := 38) hx hb dM_at_31 (by decide) (fun _ => ?_) (fun c31 => absurd c31 (by decide))
        refine lv_iload_n hx hb dM_at_38 rfl (lv_at hl 3 rfl) ?_
        refine lv_if_ne (tgt := 49) hx hb dM_at_39 (by decide) (fun c39 => ?_) (fun c39 => ?_)
        · refine lv_iload_n hx hb dM_at_49 rfl (lv_at hl 0 rfl) ?_
          refine lv_bipush (v := nI 61) hx hb dM_at_50 (by decide) ?_
          refine lv_irem hx hb dM_at_52 (by decide) ?_
          refine rd_topi (y := nI (mFc V (nI t) % 61)) (pk_rem (by omega) (by decide) (by decide)) ?_
          exact mu_iret ((mnp V, mnq V, 0, kn, va_up (mf V) 16 r, mg V)) hx hb hr hS hP (⟨kn, r, by rw [mAtC_n hc], fun _ => hkn⟩) (by unfold mAtA; rw [if_neg hc, if_neg c39]) dM_at_53 hlocks
        · refine lv_iload_n hx hb dM_at_42 rfl (lv_at hl 0 rfl) ?_
          refine lv_bipush (v := nI 61) hx hb dM_at_43 (by decide) ?_
          refine lv_idiv hx hb dM_at_45 (by decide) ?_
          refine rd_topi (y := nI (mFc V (nI t) / 61)) (pk_div (by omega) (by decide) (by decide)) ?_
          refine lv_goto (tgt := 53) hx hb dM_at_46 (by decide) ?_
          exact mu_iret ((mnp V, mnq V, 0, kn, va_up (mf V) 16 r, mg V)) hx hb hr hS hP (⟨kn, r, by rw [mAtC_n hc], fun _ => hkn⟩) (by unfold mAtA; rw [if_neg hc, if_pos c39]) dM_at_53 hlocks
      · exact absurd c16 (by omega)
  · refine lv_iconst (v := -1) hx hb dM_at_4 (by decide) ?_
    refine lv_goto (tgt := 13) hx hb dM_at_5 (by decide) ?_
    refine lv_istore_n (lv' := [(3, .int (-1)), (0, .ref (a 0)), (1, .int x), (2, .int w0)]) hx hb dM_at_13 rfl hl (by decide) rfl (fun ls hl => ?_)
    refine lv_aload_n hx hb dM_at_14 rfl (lv_at hl 1 rfl) ?_
    refine lv_iload_n hx hb dM_at_15 rfl (lv_at hl 0 rfl) ?_
    refine lv_if_ge (tgt := 23) hx hb dM_at_16 (by decide) (fun c16 => absurd c16 (by decide)) (fun _ => ?_)
    refine lv_iconst (v := 1) hx hb dM_at_19 (by decide) ?_
    refine lv_goto (tgt := 24) hx hb dM_at_20 (by decide) ?_
    refine va_put (D := G) (ci := 1) (v := .int 1) (ty := .int) (C := RX1) (T := TM) (N := 18) hx hb hts hfi tyM tyM_ok nmM hown hK hP hD hS 0 rfl rfl 0 (by decide) (hts (.fieldLink RX1 54 "PortRulesModel" "code" "I") (by decide +kernel)) (fun _ h9 => h9) rfl (by decide +kernel) rfl rfl (Nat.le_of_ble_eq_true rfl) dM_at_24 (fun H locs hP hD hS => ?_)
    have hP : va_P G vwC2 (mW cA a (mnp V, mnq V, 1, mkn V, mf V, mg V)) H := hP
    have hD : va_D (mu_A (mW cA a V)) (mW cA a (mnp V, mnq V, 1, mkn V, mf V, mg V)) := hD
    refine lv_aload_n hx hb dM_at_27 rfl (lv_at hl 1 rfl) ?_
    refine va_get (D := G) (ci := 1) (v := .int 1) (C := RX1) (T := TM) (N := 18) hx hb hts hfi hown hK hP 0 rfl rfl 0 (by decide) (hts (.fieldLink RX1 54 "PortRulesModel" "code" "I") (by decide +kernel)) (fun _ h9 => h9) rfl dM_at_28 ?_
    refine lv_if_le (tgt := 38) hx hb dM_at_31 (by decide) (fun c31 => absurd c31 (by decide)) (fun _ => ?_)
    refine lv_iconst (v := 0) hx hb dM_at_34 (by decide) ?_
    refine lv_goto (tgt := 53) hx hb dM_at_35 (by decide) ?_
    exact mu_iret ((mnp V, mnq V, 1, mkn V, mf V, mg V)) hx hb hr hS hP (⟨mkn V, mf V 16, by rw [mAtC_0 (mFc_n c1), va_up_id], fun h => hkv h⟩) (by rw [mAtA_0 (mFc_n c1)]) dM_at_53 hlocks
set_option maxHeartbeats 4000000 in
set_option maxRecDepth 100000 in
theorem cm_check (l : Launch) (G : va_G) (cA : Nat → ClassId) (a : Nat → Nat) (V : MV)  (h30 : mnp V ≤ 30) (h60 : mnq V ≤ 60) (hkv : ¬ mkn V = 0 → mKn V) (hlb : mLb V) (hdv : ∀ p0 q0, 1 ≤ p0 → p0 ≤ mnq V → 1 ≤ q0 → q0 ≤ mnq V → 0 ≤ (mf V 7 p0).toInt → 0 ≤ (mf V 7 q0).toInt → ¬ mg V 9 p0 * mg V 8 q0 = 0) : Met l yM_check wsM_check { frames := 4, cells := 0, slots := 0, locals := 91 } (mu_Pc G vwC2 (tT cA) (mW cA a V) [.ref (a 0)]) (mu_Q G vwC2 (mW cA a V) (fun _ => some (.int (nI (mChk V)))) (mUp V 0) (fun u9 => mW cA a u9)) 0 0 (mu_A (mW cA a V)) := by
  refine Met.ofW (cc := cM_check) (maxL := 4) (ret := some .int) (by decide) rfl ?_
  intro p e s m args below meth c s₁ B hml hv
  obtain ⟨rfl, hP, hK, hD0⟩ := hv
  have hx := B.exec
  have hb := B.bytes
  have hr := B.returns
  have hts := atoms_spec (ws := wsM_check) B.pre
  have hown : s.vm.findClass RX1 = some m.cls := findClass_of_methodNamed B.named
  have hlocks := B.notSynchronized
  have hD := mu_own hD0
  have hS : va_S (mu_A (mW cA a V)) s.heap s.heap [] := va_S.rf
  have hfi : ∀ w ∈ u_ws RX1 TM 18, w ∈ wsM_check := fun w h => List.mem_cons_of_mem _ (wMA_f w h)
  have hl := lv_entry ([.ref (a 0)]) (n := 4) (Nat.le_of_ble_eq_true rfl)
  rw [lg_entry_eq]
  generalize (lg_sl ([.ref (a 0)]) ++ List.replicate (4 - (lg_sl ([.ref (a 0)])).length) Slot.unset).toArray = ls at hl ⊢
  have hl : lv_has ls 4 [(0, .ref (a 0))] := hl
  refine lv_aload_n hx hb dM_check_0 rfl (lv_at hl 0 rfl) ?_
  refine lv_iconst (v := 0) hx hb dM_check_1 (by decide) ?_
  refine va_put (D := G) (ci := 1) (v := .int 0) (ty := .int) (C := RX1) (T := TM) (N := 18) hx hb hts hfi tyM tyM_ok nmM hown hK hP hD hS 0 rfl rfl 0 (by decide) (hts (.fieldLink RX1 54 "PortRulesModel" "code" "I") (by decide +kernel)) (fun _ h9 => h9) rfl (by decide +kernel) rfl rfl (Nat.le_of_ble_eq_true rfl) dM_check_2 (fun H locs hP hD hS => ?_)
  have hP : va_P G vwC2 (mW cA a (mnp V, mnq V, 0, mkn V, mf V, mg V)) H := hP
  have hD : va_D (mu_A (mW cA a V)) (mW cA a (mnp V, mnq V, 0, mkn V, mf V, mg V)) := hD
  refine lv_aload_n hx hb dM_check_5 rfl (lv_at hl 0 rfl) ?_
  refine mu_callV (As := []) (rest := []) (b := a 0) (q0 := 0) (ci := 1) ⟨hx, hb, hml, hown, hts⟩ (cm_know l G cA a ((mnp V, mnq V, 0, mkn V, mf V, mg V)) h60 hkv hlb) (cwV 0 hts gM_check_M_know rfl rfl rfl (by decide +kernel) ⟨Nat.le_of_ble_eq_true rfl, Nat.le_of_ble_eq_true rfl⟩) hK hP hD hS rfl rfl rfl (fun _ _ => rfl) rfl hl.1 rfl (Nat.le_of_ble_eq_true rfl) dM_check_6 ⟨Nat.zero_le _, Nat.zero_le _⟩ (fun u9 H locs hu9 hP hD hS => ?_)
  obtain ⟨kn, r, hk0, rfl, hkn⟩ := hu9
  have hP : va_P G vwC2 (mW cA a (mnp V, mnq V, 0, kn, va_up (mf V) 16 r, mg V)) H := hP
  have hD : va_D (mu_A (mW cA a V)) (mW cA a (mnp V, mnq V, 0, kn, va_up (mf V) 16 r, mg V)) := hD
  refine W.eq (g2 := F0 m 9 ls []) rfl ?_
  refine lv_iconst (v := nI 1) hx hb dM_check_9 (by decide) ?_
  refine lv_istore_n (lv' := [(1, .int (nI 1)), (0, .ref (a 0))]) hx hb dM_check_10 rfl hl (by decide) rfl (fun ls hl => ?_)
  refine rd_loop (fun k ls => ∃ r0 : Nat, 1 ≤ r0 ∧ r0 + k = 10 ∧ pu_chk (fun r0 => if 5 ≤ r0 ∧ r0 ≤ 8 then mBP V r0 else mBC V r0) k r0 = mChk V ∧ lv_has ls 4 [(1, .int (nI r0)), (0, .ref (a 0))]) ?_ 9 ls ⟨1, by omega, by omega, rfl, (lv_sub hl [0, 1] rfl)⟩
  intro k11 ls ⟨r0, hr1, hk, hR, hl⟩ ih11
  refine lv_iload_n hx hb dM_check_11 rfl (lv_at hl 0 rfl) ?_
  refine lv_bipush (v := nI 10) hx hb dM_check_12 (by decide) ?_
  refine nb_ge (tgt := 118) hx hb dM_check_14 (by decide) (by omega) (by omega) (fun c14 => ?_) (fun c14 => ?_)
  · refine lv_iconst (v := nI 0) hx hb dM_check_118 (by decide) ?_
    exact mu_iret ((mnp V, mnq V, 0, kn, va_up (mf V) 16 r, mg V)) hx hb hr hS hP (⟨kn, r, rfl, fun _ => hkn⟩) (by rw [← hR, show k11 = 0 by omega]; rfl) dM_check_119 hlocks
  · obtain ⟨k11, rfl⟩ : ∃ z, k11 = z + 1 := ⟨k11 - 1, by omega⟩
    refine lv_iconst (v := nI 1) hx hb dM_check_17 (by decide) ?_
    refine lv_istore_n (lv' := [(2, .int (nI 1)), (1, .int (nI r0)), (0, .ref (a 0))]) hx hb dM_check_18 rfl hl (by decide) rfl (fun ls hl => ?_)
    refine rd_loop (fun k ls => ∃ i : Nat, 1 ≤ i ∧ i + k = mnq V + 1 ∧ ((5 ≤ r0 ∧ r0 ≤ 8) → pu_fst (fun q0 => mRd V q0 && mPB V r0 q0) k i = mBP V r0) ∧ (¬ (5 ≤ r0 ∧ r0 ≤ 8) → pu_fst2 (fun p0 q0 => mF V p0 q0 && mCB V r0 p0 q0) (mnq V) k i = mBC V r0) ∧ lv_has ls 4 [(2, .int (nI i)), (1, .int (nI r0)), (0, .ref (a 0))]) ?_ (mnq V) ls ⟨1, by omega, by omega, fun _ => rfl, fun _ => rfl, (lv_sub hl [0, 1, 2] rfl)⟩
    intro k19 ls ⟨i, hi, hki, hB, hC, hl⟩ ih19
    refine lv_iload_n hx hb dM_check_19 rfl (lv_at hl 0 rfl) ?_
    refine lv_aload_n hx hb dM_check_20 rfl (lv_at hl 2 rfl) ?_
    refine va_get (D := G) (ci := 1) (v := .int (nI (mnq V))) (C := RX1) (T := TM) (N := 18) hx hb hts hfi hown hK hP 0 rfl rfl 3 (by decide) (hts (.fieldLink RX1 71 "PortRulesModel" "ports" "I") (by decide +kernel)) (fun _ h9 => h9) rfl dM_check_21 ?_
    refine nb_gt (tgt := 112) hx hb dM_check_24 (by decide) (by omega) (by omega) (fun c24 => ?_) (fun c24 => ?_)
    · refine lv_iinc (v := nI (r0 + 1)) (lv' := [(1, .int (nI (r0 + 1))), (2, .int (nI i)), (0, .ref (a 0))]) hx hb dM_check_112 hl (k := 1) rfl (ni_inc _) (by decide) rfl (fun ls hl => ?_)
      refine lv_goto (tgt := 11) hx hb dM_check_115 (by decide) ?_
      exact ih11 k11 ls (by omega) ⟨r0 + 1, by omega, by omega, (pu_chk_n (b := (fun r0 => if 5 ≤ r0 ∧ r0 ≤ 8 then mBP V r0 else mBC V r0)) (show (if 5 ≤ r0 ∧ r0 ≤ 8 then mBP V r0 else mBC V r0) = 0 by by_cases hpr : 5 ≤ r0 ∧ r0 ≤ 8; (rw [if_pos hpr, ← hB hpr, show k19 = 0 by omega]; rfl); (rw [if_neg hpr, ← hC hpr, show k19 = 0 by omega]; rfl))).symm.trans hR, (lv_sub hl [0, 2] rfl)⟩
    · obtain ⟨k19, rfl⟩ : ∃ z, k19 = z + 1 := ⟨k19 - 1, by omega⟩
      refine lv_iload_n hx hb dM_check_27 rfl (lv_at hl 1 rfl) ?_
      refine lv_iconst (v := 4) hx hb dM_check_28 (by decide) ?_
      refine bi_le (a := ((r0 : Nat) : Int)) (b := 4) (tgt := 63) hx hb dM_check_29 (by decide) (nI_toInt (by omega)) (by decide) (fun c29 => ?_) (fun c29 => ?_)
      · refine lv_iconst (v := nI 1) hx hb dM_check_63 (by decide) ?_
        refine lv_istore_n (lv' := [(3, .int (nI 1)), (2, .int (nI i)), (1, .int (nI r0)), (0, .ref (a 0))]) hx hb dM_check_64 rfl hl (by decide) rfl (fun ls hl => ?_)
        refine rd_loop (fun k ls => ∃ j : Nat, 1 ≤ j ∧ j + k = mnq V + 1 ∧ pu_fst (fun q0 => mF V i q0 && mCB V r0 i q0) k j = pu_fst (fun q0 => mF V i q0 && mCB V r0 i q0) (mnq V) 1 ∧ lv_has ls 4 [(3, .int (nI j)), (2, .int (nI i)), (1, .int (nI r0)), (0, .ref (a 0))]) ?_ (mnq V) ls ⟨1, by omega, by omega, rfl, (lv_sub hl [0, 1, 2, 3] rfl)⟩
        intro k65 ls ⟨j, hj, hkj, hQ9, hl⟩ ih65
        refine lv_iload_n hx hb dM_check_65 rfl (lv_at hl 0 rfl) ?_
        refine lv_aload_n hx hb dM_check_66 rfl (lv_at hl 3 rfl) ?_
        refine va_get (D := G) (ci := 1) (v := .int (nI (mnq V))) (C := RX1) (T := TM) (N := 18) hx hb hts hfi hown hK hP 0 rfl rfl 3 (by decide) (hts (.fieldLink RX1 71 "PortRulesModel" "ports" "I") (by decide +kernel)) (fun _ h9 => h9) rfl dM_check_67 ?_
        refine nb_gt (tgt := 106) hx hb dM_check_70 (by decide) (by omega) (by omega) (fun c70 => ?_) (fun c70 => ?_)
        · refine lv_iinc (v := nI (i + 1)) (lv' := [(2, .int (nI (i + 1))), (3, .int (nI j)), (1, .int (nI r0)), (0, .ref (a 0))]) hx hb dM_check_106 hl (k := 1) rfl (ni_inc _) (by decide) rfl (fun ls hl => ?_)
          refine lv_goto (tgt := 19) hx hb dM_check_109 (by decide) ?_
          exact ih19 k19 ls (by omega) ⟨i + 1, by omega, by omega, fun hpr => absurd hpr (by omega), fun hpr => (pu_fst2_n (P := (fun p0 q0 => mF V p0 q0 && mCB V r0 p0 q0)) (hQ9.symm.trans (by rw [show k65 = 0 by omega]; rfl))).symm.trans (hC hpr), (lv_sub hl [0, 2, 3] rfl)⟩
        · obtain ⟨k65, rfl⟩ : ∃ z, k65 = z + 1 := ⟨k65 - 1, by omega⟩
          refine lv_aload_n hx hb dM_check_73 rfl (lv_at hl 3 rfl) ?_
          refine lv_iload_n hx hb dM_check_74 rfl (lv_at hl 1 rfl) ?_
          refine lv_iload_n hx hb dM_check_75 rfl (lv_at hl 0 rfl) ?_
          refine rd_callV (As := [.int (nI i), .int (nI j)]) (rest := []) (b := a 0) (q0 := 0) (ci := 1) ⟨hx, hb, hml, hown, hts⟩ (cm_isFlat l G cA a ((mnp V, mnq V, 0, kn, va_up (mf V) 16 r, mg V)) i j h30 h60 hkn (by omega) (by omega) (by omega) (by omega)) (cwV 2 hts gM_check_M_isFlat rfl rfl rfl (by decide +kernel) ⟨Nat.le_of_ble_eq_true rfl, Nat.le_of_ble_eq_true rfl⟩) hK hP rfl rfl rfl rfl hl.1 rfl (Nat.le_of_ble_eq_true rfl) dM_check_76 ⟨Nat.zero_le _, Nat.zero_le _⟩ ?_
          refine bb_eq (b := (mF V i j)) (tgt := 100) hx hb dM_check_79 (by decide) (fun c79 => ?_) (fun c79 => ?_)
          · refine lv_iinc (v := nI (j + 1)) (lv' := [(3, .int (nI (j + 1))), (2, .int (nI i)), (1, .int (nI r0)), (0, .ref (a 0))]) hx hb dM_check_100 hl (k := 0) rfl (ni_inc _) (by decide) rfl (fun ls hl => ?_)
            refine lv_goto (tgt := 65) hx hb dM_check_103 (by decide) ?_
            exact ih65 k65 ls (by omega) ⟨j + 1, by omega, by omega, (pu_fst_f (P := (fun q0 => mF V i q0 && mCB V r0 i q0)) (by simp [c79])).symm.trans hQ9, (lv_sub hl [0, 1, 2, 3] rfl)⟩
          · refine lv_aload_n hx hb dM_check_82 rfl (lv_at hl 3 rfl) ?_
            refine lv_iload_n hx hb dM_check_83 rfl (lv_at hl 2 rfl) ?_
            refine lv_iload_n hx hb dM_check_84 rfl (lv_at hl 1 rfl) ?_
            refine lv_iload_n hx hb dM_check_85 rfl (lv_at hl 0 rfl) ?_
            refine rd_callV (As := [.int (nI r0), .int (nI i), .int (nI j)]) (rest := []) (b := a 0) (q0 := 0) (ci := 1) ⟨hx, hb, hml, hown, hts⟩ (cm_isBroken l G cA a ((mnp V, mnq V, 0, kn, va_up (mf V) 16 r, mg V)) r0 i j (by omega) (by omega) (by omega) (hdv i j (by omega) (by omega) (by omega) (by omega))) (cwV 3 hts gM_check_M_isBroken rfl rfl rfl (by decide +kernel) ⟨Nat.le_of_ble_eq_true rfl, Nat.le_of_ble_eq_true rfl⟩) hK hP rfl rfl rfl rfl hl.1 rfl (Nat.le_of_ble_eq_true rfl) dM_check_86 ⟨Nat.zero_le _, Nat.zero_le _⟩ ?_
            refine bb_eq (b := (mCB V r0 i j)) (tgt := 100) hx hb dM_check_89 (by decide) (fun c89 => ?_) (fun c89 => ?_)
            · refine lv_iinc (v := nI (j + 1)) (lv' := [(3, .int (nI (j + 1))), (2, .int (nI i)), (1, .int (nI r0)), (0, .ref (a 0))]) hx hb dM_check_100 hl (k := 0) rfl (ni_inc _) (by decide) rfl (fun ls hl => ?_)
              refine lv_goto (tgt := 65) hx hb dM_check_103 (by decide) ?_
              exact ih65 k65 ls (by omega) ⟨j + 1, by omega, by omega, (pu_fst_f (P := (fun q0 => mF V i q0 && mCB V r0 i q0)) (by simp [c79, c89])).symm.trans hQ9, (lv_sub hl [0, 1, 2, 3] rfl)⟩
            · refine lv_sipush (v := nI 1000) hx hb dM_check_92 (by decide) ?_
              refine lv_iload_n hx hb dM_check_95 rfl (lv_at hl 2 rfl) ?_
              refine lv_imul hx hb dM_check_96 ?_
              refine rd_topi (y := nI (1000 * r0)) (pk_mul _ _) ?_
              refine lv_iload_n hx hb dM_check_97 rfl (lv_at hl 0 rfl) ?_
              refine lv_iadd hx hb dM_check_98 ?_
              refine rd_topi (y := nI (1000 * r0 + j)) (nI_add _ _) ?_
              have hz : mBC V r0 = j := (hC (by omega)).symm.trans (pu_fst2_y (P := (fun p0 q0 => mF V p0 q0 && mCB V r0 p0 q0)) (hQ9.symm.trans (pu_fst_t (P := (fun q0 => mF V i q0 && mCB V r0 i q0)) (by simp [c79, c89]))) (by omega))
              have hb9 : (if 5 ≤ r0 ∧ r0 ≤ 8 then mBP V r0 else mBC V r0) = j := (if_neg (by omega)).trans hz
              exact mu_iret ((mnp V, mnq V, 0, kn, va_up (mf V) 16 r, mg V)) hx hb hr hS hP (⟨kn, r, rfl, fun _ => hkn⟩) (by rw [← hR, pu_chk_y (b := (fun r0 => if 5 ≤ r0 ∧ r0 ≤ 8 then mBP V r0 else mBC V r0)) (z := j) hb9 (by omega)]) dM_check_99 hlocks
      · refine lv_iload_n hx hb dM_check_32 rfl (lv_at hl 1 rfl) ?_
        refine lv_bipush (v := 9) hx hb dM_check_33 (by decide) ?_
        refine bi_ge (a := ((r0 : Nat) : Int)) (b := 9) (tgt := 63) hx hb dM_check_35 (by decide) (nI_toInt (by omega)) (by decide) (fun c35 => ?_) (fun c35 => ?_)
        · refine lv_iconst (v := nI 1) hx hb dM_check_63 (by decide) ?_
          refine lv_istore_n (lv' := [(3, .int (nI 1)), (2, .int (nI i)), (1, .int (nI r0)), (0, .ref (a 0))]) hx hb dM_check_64 rfl hl (by decide) rfl (fun ls hl => ?_)
          refine rd_loop (fun k ls => ∃ j : Nat, 1 ≤ j ∧ j + k = mnq V + 1 ∧ pu_fst (fun q0 => mF V i q0 && mCB V r0 i q0) k j = pu_fst (fun q0 => mF V i q0 && mCB V r0 i q0) (mnq V) 1 ∧ lv_has ls 4 [(3, .int (nI j)), (2, .int (nI i)), (1, .int (nI r0)), (0, .ref (a 0))]) ?_ (mnq V) ls ⟨1, by omega, by omega, rfl, (lv_sub hl [0, 1, 2, 3] rfl)⟩
          intro k65 ls ⟨j, hj, hkj, hQ9, hl⟩ ih65
          refine lv_iload_n hx hb dM_check_65 rfl (lv_at hl 0 rfl) ?_
          refine lv_aload_n hx hb dM_check_66 rfl (lv_at hl 3 rfl) ?_
          refine va_get (D := G) (ci := 1) (v := .int (nI (mnq V))) (C := RX1) (T := TM) (N := 18) hx hb hts hfi hown hK hP 0 rfl rfl 3 (by decide) (hts (.fieldLink RX1 71 "PortRulesModel" "ports" "I") (by decide +kernel)) (fun _ h9 => h9) rfl dM_check_67 ?_
          refine nb_gt (tgt := 106) hx hb dM_check_70 (by decide) (by omega) (by omega) (fun c70 => ?_) (fun c70 => ?_)
          · refine lv_iinc (v := nI (i + 1)) (lv' := [(2, .int (nI (i + 1))), (3, .int (nI j)), (1, .int (nI r0)), (0, .ref (a 0))]) hx hb dM_check_106 hl (k := 1) rfl (ni_inc _) (by decide) rfl (fun ls hl => ?_)
            refine lv_goto (tgt := 19) hx hb dM_check_109 (by decide) ?_
            exact ih19 k19 ls (by omega) ⟨i + 1, by omega, by omega, fun hpr => absurd hpr (by omega), fun hpr => (pu_fst2_n (P := (fun p0 q0 => mF V p0 q0 && mCB V r0 p0 q0)) (hQ9.symm.trans (by rw [show k65 = 0 by omega]; rfl))).symm.trans (hC hpr), (lv_sub hl [0, 2, 3] rfl)⟩
          · obtain ⟨k65, rfl⟩ : ∃ z, k65 = z + 1 := ⟨k65 - 1, by omega⟩
            refine lv_aload_n hx hb dM_check_73 rfl (lv_at hl 3 rfl) ?_
            refine lv_iload_n hx hb dM_check_74 rfl (lv_at hl 1 rfl) ?_
            refine lv_iload_n hx hb dM_check_75 rfl (lv_at hl 0 rfl) ?_
            refine rd_callV (As := [.int (nI i), .int (nI j)]) (rest := []) (b := a 0) (q0 := 0) (ci := 1) ⟨hx, hb, hml, hown, hts⟩ (cm_isFlat l G cA a ((mnp V, mnq V, 0, kn, va_up (mf V) 16 r, mg V)) i j h30 h60 hkn (by omega) (by omega) (by omega) (by omega)) (cwV 2 hts gM_check_M_isFlat rfl rfl rfl (by decide +kernel) ⟨Nat.le_of_ble_eq_true rfl, Nat.le_of_ble_eq_true rfl⟩) hK hP rfl rfl rfl rfl hl.1 rfl (Nat.le_of_ble_eq_true rfl) dM_check_76 ⟨Nat.zero_le _, Nat.zero_le _⟩ ?_
            refine bb_eq (b := (mF V i j)) (tgt := 100) hx hb dM_check_79 (by decide) (fun c79 => ?_) (fun c79 => ?_)
            · refine lv_iinc (v := nI (j + 1)) (lv' := [(3, .int (nI (j + 1))), (2, .int (nI i)), (1, .int (nI r0)), (0, .ref (a 0))]) hx hb dM_check_100 hl (k := 0) rfl (ni_inc _) (by decide) rfl (fun ls hl => ?_)
              refine lv_goto (tgt := 65) hx hb dM_check_103 (by decide) ?_
              exact ih65 k65 ls (by omega) ⟨j + 1, by omega, by omega, (pu_fst_f (P := (fun q0 => mF V i q0 && mCB V r0 i q0)) (by simp [c79])).symm.trans hQ9, (lv_sub hl [0, 1, 2, 3] rfl)⟩
            · refine lv_aload_n hx hb dM_check_82 rfl (lv_at hl 3 rfl) ?_
              refine lv_iload_n hx hb dM_check_83 rfl (lv_at hl 2 rfl) ?_
              refine lv_iload_n hx hb dM_check_84 rfl (lv_at hl 1 rfl) ?_
              refine lv_iload_n hx hb dM_check_85 rfl (lv_at hl 0 rfl) ?_
              refine rd_callV (As := [.int (nI r0), .int (nI i), .int (nI j)]) (rest := []) (b := a 0) (q0 := 0) (ci := 1) ⟨hx, hb, hml, hown, hts⟩ (cm_isBroken l G cA a ((mnp V, mnq V, 0, kn, va_up (mf V) 16 r, mg V)) r0 i j (by omega) (by omega) (by omega) (hdv i j (by omega) (by omega) (by omega) (by omega))) (cwV 3 hts gM_check_M_isBroken rfl rfl rfl (by decide +kernel) ⟨Nat.le_of_ble_eq_true rfl, Nat.le_of_ble_eq_true rfl⟩) hK hP rfl rfl rfl rfl hl.1 rfl (Nat.le_of_ble_eq_true rfl) dM_check_86 ⟨Nat.zero_le _, Nat.zero_le _⟩ ?_
              refine bb_eq (b := (mCB V r0 i j)) (tgt := 100) hx hb dM_check_89 (by decide) (fun c89 => ?_) (fun c89 => ?_)
              · refine lv_iinc (v := nI (j + 1)) (lv' := [(3, .int (nI (j + 1))), (2, .int (nI i)), (1, .int (nI r0)), (0, .ref (a 0))]) hx hb dM_check_100 hl (k := 0) rfl (ni_inc _) (by decide) rfl (fun ls hl => ?_)
                refine lv_goto (tgt := 65) hx hb dM_check_103 (by decide) ?_
                exact ih65 k65 ls (by omega) ⟨j + 1, by omega, by omega, (pu_fst_f (P := (fun q0 => mF V i q0 && mCB V r0 i q0)) (by simp [c79, c89])).symm.trans hQ9, (lv_sub hl [0, 1, 2, 3] rfl)⟩
              · refine lv_sipush (v := nI 1000) hx hb dM_check_92 (by decide) ?_
                refine lv_iload_n hx hb dM_check_95 rfl (lv_at hl 2 rfl) ?_
                refine lv_imul hx hb dM_check_96 ?_
                refine rd_topi (y := nI (1000 * r0)) (pk_mul _ _) ?_
                refine lv_iload_n hx hb dM_check_97 rfl (lv_at hl 0 rfl) ?_
                refine lv_iadd hx hb dM_check_98 ?_
                refine rd_topi (y := nI (1000 * r0 + j)) (nI_add _ _) ?_
                have hz : mBC V r0 = j := (hC (by omega)).symm.trans (pu_fst2_y (P := (fun p0 q0 => mF V p0 q0 && mCB V r0 p0 q0)) (hQ9.symm.trans (pu_fst_t (P := (fun q0 => mF V i q0 && mCB V r0 i q0)) (by simp [c79, c89]))) (by omega))
                have hb9 : (if 5 ≤ r0 ∧ r0 ≤ 8 then mBP V r0 else mBC V r0) = j := (if_neg (by omega)).trans hz
                exact mu_iret ((mnp V, mnq V, 0, kn, va_up (mf V) 16 r, mg V)) hx hb hr hS hP (⟨kn, r, rfl, fun _ => hkn⟩) (by rw [← hR, pu_chk_y (b := (fun r0 => if 5 ≤ r0 ∧ r0 ≤ 8 then mBP V r0 else mBC V r0)) (z := j) hb9 (by omega)]) dM_check_99 hlocks
        · refine lv_aload_n hx hb dM_check_38 rfl (lv_at hl 2 rfl) ?_
          refine lv_iload_n hx hb dM_check_39 rfl (lv_at hl 0 rfl) ?_
          refine rd_callV (As := [.int (nI i)]) (rest := []) (b := a 0) (q0 := 0) (ci := 1) ⟨hx, hb, hml, hown, hts⟩ (cm_isReading l G cA a ((mnp V, mnq V, 0, kn, va_up (mf V) 16 r, mg V)) i h30 (by omega)) (cwV 1 hts gM_check_M_isReading rfl rfl rfl (by decide +kernel) ⟨Nat.le_of_ble_eq_true rfl, Nat.le_of_ble_eq_true rfl⟩) hK hP rfl rfl rfl rfl hl.1 rfl (Nat.le_of_ble_eq_true rfl) dM_check_40 ⟨Nat.zero_le _, Nat.zero_le _⟩ ?_
          refine bb_eq (b := (mRd V i)) (tgt := 106) hx hb dM_check_43 (by decide) (fun c43 => ?_) (fun c43 => ?_)
          · refine lv_iinc (v := nI (i + 1)) (lv' := [(2, .int (nI (i + 1))), (1, .int (nI r0)), (0, .ref (a 0))]) hx hb dM_check_106 hl (k := 0) rfl (ni_inc _) (by decide) rfl (fun ls hl => ?_)
            refine lv_goto (tgt := 19) hx hb dM_check_109 (by decide) ?_
            exact ih19 k19 ls (by omega) ⟨i + 1, by omega, by omega, fun hpr => (pu_fst_f (P := (fun q0 => mRd V q0 && mPB V r0 q0)) (by simp [c43])).symm.trans (hB hpr), fun hpr => absurd (show 5 ≤ r0 ∧ r0 ≤ 8 by omega) hpr, (lv_sub hl [0, 1, 2] rfl)⟩
          · refine lv_aload_n hx hb dM_check_46 rfl (lv_at hl 2 rfl) ?_
            refine lv_iload_n hx hb dM_check_47 rfl (lv_at hl 1 rfl) ?_
            refine lv_iload_n hx hb dM_check_48 rfl (lv_at hl 0 rfl) ?_
            refine rd_callV (As := [.int (nI r0), .int (nI i)]) (rest := []) (b := a 0) (q0 := 0) (ci := 1) ⟨hx, hb, hml, hown, hts⟩ (cm_isBrokenAtK l G cA a ((mnp V, mnq V, 0, kn, va_up (mf V) 16 r, mg V)) r0 i h30 h60 hk0 hkn (by omega) (by omega) (by omega)) (cwV 2 hts gM_check_M_isBrokenAt rfl rfl rfl (by decide +kernel) ⟨Nat.le_of_ble_eq_true rfl, Nat.le_of_ble_eq_true rfl⟩) hK hP rfl rfl rfl rfl hl.1 rfl (Nat.le_of_ble_eq_true rfl) dM_check_49 ⟨Nat.zero_le _, Nat.zero_le _⟩ ?_
            refine bb_eq (b := (mPB V r0 i)) (tgt := 106) hx hb dM_check_52 (by decide) (fun c52 => ?_) (fun c52 => ?_)
            · refine lv_iinc (v := nI (i + 1)) (lv' := [(2, .int (nI (i + 1))), (1, .int (nI r0)), (0, .ref (a 0))]) hx hb dM_check_106 hl (k := 0) rfl (ni_inc _) (by decide) rfl (fun ls hl => ?_)
              refine lv_goto (tgt := 19) hx hb dM_check_109 (by decide) ?_
              exact ih19 k19 ls (by omega) ⟨i + 1, by omega, by omega, fun hpr => (pu_fst_f (P := (fun q0 => mRd V q0 && mPB V r0 q0)) (by simp [c43, c52])).symm.trans (hB hpr), fun hpr => absurd (show 5 ≤ r0 ∧ r0 ≤ 8 by omega) hpr, (lv_sub hl [0, 1, 2] rfl)⟩
            · refine lv_sipush (v := nI 1000) hx hb dM_check_55 (by decide) ?_
              refine lv_iload_n hx hb dM_check_58 rfl (lv_at hl 1 rfl) ?_
              refine lv_imul hx hb dM_check_59 ?_
              refine rd_topi (y := nI (1000 * r0)) (pk_mul _ _) ?_
              refine lv_iload_n hx hb dM_check_60 rfl (lv_at hl 0 rfl) ?_
              refine lv_iadd hx hb dM_check_61 ?_
              refine rd_topi (y := nI (1000 * r0 + i)) (nI_add _ _) ?_
              have hz : mBP V r0 = i := (hB (by omega)).symm.trans (pu_fst_t (P := (fun q0 => mRd V q0 && mPB V r0 q0)) (by simp [c43, c52]))
              have hb9 : (if 5 ≤ r0 ∧ r0 ≤ 8 then mBP V r0 else mBC V r0) = i := (if_pos (by omega)).trans hz
              exact mu_iret ((mnp V, mnq V, 0, kn, va_up (mf V) 16 r, mg V)) hx hb hr hS hP (⟨kn, r, rfl, fun _ => hkn⟩) (by rw [← hR, pu_chk_y (b := (fun r0 => if 5 ≤ r0 ∧ r0 ≤ 8 then mBP V r0 else mBC V r0)) (z := i) hb9 (by omega)]) dM_check_62 hlocks
set_option maxHeartbeats 4000000 in
set_option maxRecDepth 100000 in
theorem cm_openN (l : Launch) (G : va_G) (cA : Nat → ClassId) (a : Nat → Nat) (V : MV) (x : Int32) (h30 : mnp V ≤ 30) (h60 : mnq V ≤ 60) (hkv : ¬ mkn V = 0 → mKn V) (hlb : mLb V) (hneg : x.toInt < 0) : Met l yM_open wsM_open { frames := 3, cells := 0, slots := 0, locals := 68 } (mu_Pc G vwC2 (tT cA) (mW cA a V) [.ref (a 0), .int x]) (mu_Q G vwC2 (mW cA a V) (fun _ => some (.int (mOpA V (x)))) (mUp V 0) (fun u9 => mW cA a u9)) 0 0 (mu_A (mW cA a V)) := by
  refine Met.ofW (cc := cM_open) (maxL := 4) (ret := some .int) (by decide) rfl ?_
  intro p e s m args below meth c s₁ B hml hv
  obtain ⟨rfl, hP, hK, hD0⟩ := hv
  have hx := B.exec
  have hb := B.bytes
  have hr := B.returns
  have hts := atoms_spec (ws := wsM_open) B.pre
  have hown : s.vm.findClass RX1 = some m.cls := findClass_of_methodNamed B.named
  have hlocks := B.notSynchronized
  have hD := mu_own hD0
  have hS : va_S (mu_A (mW cA a V)) s.heap s.heap [] := va_S.rf
  have hfi : ∀ w ∈ u_ws RX1 TM 18, w ∈ wsM_open := fun w h => List.mem_cons_of_mem _ (wMA_f w h)
  have hl := lv_entry ([.ref (a 0), .int x]) (n := 4) (Nat.le_of_ble_eq_true rfl)
  rw [lg_entry_eq]
  generalize (lg_sl ([.ref (a 0), .int x]) ++ List.replicate (4 - (lg_sl ([.ref (a 0), .int x])).length) Slot.unset).toArray = ls at hl ⊢
  have hl : lv_has ls 4 [(0, .ref (a 0)), (1, .int x)] := hl
  have htl : ∀ q0, mTo V q0 ≤ mnq V := fun q0 => pu_cnt_le _ _ _
  refine lv_aload_n hx hb dM_open_0 rfl (lv_at hl 0 rfl) ?_
  refine lv_iconst (v := 0) hx hb dM_open_1 (by decide) ?_
  refine va_put (D := G) (ci := 1) (v := .int 0) (ty := .int) (C := RX1) (T := TM) (N := 18) hx hb hts hfi tyM tyM_ok nmM hown hK hP hD hS 0 rfl rfl 0 (by decide) (hts (.fieldLink RX1 54 "PortRulesModel" "code" "I") (by decide +kernel)) (fun _ h9 => h9) rfl (by decide +kernel) rfl rfl (Nat.le_of_ble_eq_true rfl) dM_open_2 (fun H locs hP hD hS => ?_)
  have hP : va_P G vwC2 (mW cA a (mnp V, mnq V, 0, mkn V, mf V, mg V)) H := hP
  have hD : va_D (mu_A (mW cA a V)) (mW cA a (mnp V, mnq V, 0, mkn V, mf V, mg V)) := hD
  refine lv_iconst (v := nI 0) hx hb dM_open_5 (by decide) ?_
  refine lv_istore_n (lv' := [(2, .int (nI 0)), (0, .ref (a 0)), (1, .int x)]) hx hb dM_open_6 rfl hl (by decide) rfl (fun ls hl => ?_)
  refine lv_iconst (v := nI 1) hx hb dM_open_7 (by decide) ?_
  refine lv_istore_n (lv' := [(3, .int (nI 1)), (2, .int (nI 0)), (0, .ref (a 0)), (1, .int x)]) hx hb dM_open_8 rfl hl (by decide) rfl (fun ls hl => ?_)
  refine mu_loop (H0 := s.heap) (fun k ls H locs => ∃ (i n : Nat) (kn : Int32) (r : Nat → Int32), 1 ≤ i ∧ i + k = mnq V + 1 ∧ n + k ≤ mnq V ∧ (¬ kn = 0 → mKn (mnp V, mnq V, 0, kn, va_up (mf V) 16 r, mg V)) ∧ va_P G vwC2 (mW cA a (mnp V, mnq V, 0, kn, va_up (mf V) 16 r, mg V)) H ∧ va_D (mu_A (mW cA a V)) (mW cA a (mnp V, mnq V, 0, kn, va_up (mf V) 16 r, mg V)) ∧ va_S (mu_A (mW cA a V)) s.heap H locs ∧ lv_has ls 4 [(3, .int (nI i)), (2, .int (nI n)), (0, .ref (a 0)), (1, .int x)]) ?_ (mnq V) ls H locs ⟨1, 0, mkn V, mf V 16, by omega, by omega, by omega, by rw [va_up_id]; exact hkv, by rw [va_up_id]; exact hP, by rw [va_up_id]; exact hD, hS, (lv_sub hl [0, 1, 2, 3] rfl)⟩
  intro k9 ls H locs ⟨i, n, kn, r, hi, hk, hnk, hkw, hP, hD, hS, hl⟩ ih9
  refine lv_iload_n hx hb dM_open_9 rfl (lv_at hl 0 rfl) ?_
  refine lv_aload_n hx hb dM_open_10 rfl (lv_at hl 2 rfl) ?_
  refine va_get (D := G) (ci := 1) (v := .int (nI (mnq V))) (C := RX1) (T := TM) (N := 18) hx hb hts hfi hown hK hP 0 rfl rfl 3 (by decide) (hts (.fieldLink RX1 71 "PortRulesModel" "ports" "I") (by decide +kernel)) (fun _ h9 => h9) rfl dM_open_11 ?_
  refine nb_gt (tgt := 49) hx hb dM_open_14 (by decide) (by omega) (by omega) (fun c14 => ?_) (fun c14 => ?_)
  · refine lv_iconst (v := nI 0) hx hb dM_open_49 (by decide) ?_
    exact mu_iret ((mnp V, mnq V, 0, kn, va_up (mf V) 16 r, mg V)) hx hb hr hS hP (⟨kn, r, rfl, hkw⟩) (by rw [mOpA_n hneg]; rfl) dM_open_50 hlocks
  · obtain ⟨k9, rfl⟩ : ∃ z, k9 = z + 1 := ⟨k9 - 1, by omega⟩
    refine lv_aload_n hx hb dM_open_17 rfl (lv_at hl 2 rfl) ?_
    refine lv_iload_n hx hb dM_open_18 rfl (lv_at hl 0 rfl) ?_
    refine rd_callV (As := [.int (nI i)]) (rest := []) (b := a 0) (q0 := 0) (ci := 1) ⟨hx, hb, hml, hown, hts⟩ (cm_isReading l G cA a ((mnp V, mnq V, 0, kn, va_up (mf V) 16 r, mg V)) i h30 (by omega)) (cwV 1 hts gM_open_M_isReading rfl rfl rfl (by decide +kernel) ⟨Nat.le_of_ble_eq_true rfl, Nat.le_of_ble_eq_true rfl⟩) hK hP rfl rfl rfl rfl hl.1 rfl (Nat.le_of_ble_eq_true rfl) dM_open_19 ⟨Nat.zero_le _, Nat.zero_le _⟩ ?_
    refine bb_eq (b := (mRd V i)) (tgt := 43) hx hb dM_open_22 (by decide) (fun c22 => ?_) (fun c22 => ?_)
    · refine lv_iinc (v := nI (i + 1)) (lv' := [(3, .int (nI (i + 1))), (2, .int (nI n)), (0, .ref (a 0)), (1, .int x)]) hx hb dM_open_43 hl (k := 0) rfl (ni_inc _) (by decide) rfl (fun ls hl => ?_)
      refine lv_goto (tgt := 9) hx hb dM_open_46 (by decide) ?_
      exact ih9 k9 ls H locs (by omega) ⟨i + 1, n, kn, r, by omega, by omega, by omega, hkw, hP, hD, hS, (lv_sub hl [0, 1, 2, 3] rfl)⟩
    · refine lv_aload_n hx hb dM_open_25 rfl (lv_at hl 2 rfl) ?_
      refine lv_iload_n hx hb dM_open_26 rfl (lv_at hl 0 rfl) ?_
      refine mu_callV (As := [.int (nI i)]) (rest := []) (b := a 0) (q0 := 0) (ci := 1) ⟨hx, hb, hml, hown, hts⟩ (cm_leadTo l G cA a ((mnp V, mnq V, 0, kn, va_up (mf V) 16 r, mg V)) i h30 h60 hkw hlb (by omega) (by omega)) (cwV 1 hts gM_open_M_leadTo rfl rfl rfl (by decide +kernel) ⟨Nat.le_of_ble_eq_true rfl, Nat.le_of_ble_eq_true rfl⟩) hK hP hD hS rfl rfl rfl (fun _ _ => rfl) rfl hl.1 rfl (Nat.le_of_ble_eq_true rfl) dM_open_27 ⟨Nat.zero_le _, Nat.zero_le _⟩ (fun u9 H locs hu9 hP hD hS => ?_)
      obtain ⟨kn, r, hk0, rfl, hkn⟩ := hu9
      have hP : va_P G vwC2 (mW cA a (mnp V, mnq V, 0, kn, va_up (mf V) 16 r, mg V)) H := hP
      have hD : va_D (mu_A (mW cA a V)) (mW cA a (mnp V, mnq V, 0, kn, va_up (mf V) 16 r, mg V)) := hD
      have hkw : ¬ kn = 0 → mKn (mnp V, mnq V, 0, kn, va_up (mf V) 16 r, mg V) := fun _ => hkn
      refine W.eq (g2 := F0 m 30 ls [.int (nI (mTo V i))]) rfl ?_
      refine bn_ne (tgt := 43) hx hb dM_open_30 (by decide) (by have h := htl i; omega) (fun c30 => ?_) (fun c30 => ?_)
      · refine lv_iinc (v := nI (i + 1)) (lv' := [(3, .int (nI (i + 1))), (2, .int (nI n)), (0, .ref (a 0)), (1, .int x)]) hx hb dM_open_43 hl (k := 0) rfl (ni_inc _) (by decide) rfl (fun ls hl => ?_)
        refine lv_goto (tgt := 9) hx hb dM_open_46 (by decide) ?_
        exact ih9 k9 ls H locs (by omega) ⟨i + 1, n, kn, r, by omega, by omega, by omega, hkw, hP, hD, hS, (lv_sub hl [0, 1, 2, 3] rfl)⟩
      · refine lv_iload_n hx hb dM_open_33 rfl (lv_at hl 1 rfl) ?_
        refine lv_iload_n hx hb dM_open_34 rfl (lv_at hl 3 rfl) ?_
        refine lv_icmp_ne (tgt := 40) hx hb dM_open_35 (by decide) (fun c35 => ?_) (fun c35 => ?_)
        · refine lv_iinc (v := nI (n + 1)) (lv' := [(2, .int (nI (n + 1))), (3, .int (nI i)), (0, .ref (a 0)), (1, .int x)]) hx hb dM_open_40 hl (k := 1) rfl (ni_inc _) (by decide) rfl (fun ls hl => ?_)
          refine lv_iinc (v := nI (i + 1)) (lv' := [(3, .int (nI (i + 1))), (2, .int (nI (n + 1))), (0, .ref (a 0)), (1, .int x)]) hx hb dM_open_43 hl (k := 1) rfl (ni_inc _) (by decide) rfl (fun ls hl => ?_)
          refine lv_goto (tgt := 9) hx hb dM_open_46 (by decide) ?_
          exact ih9 k9 ls H locs (by omega) ⟨i + 1, n + 1, kn, r, by omega, by omega, by omega, hkw, hP, hD, hS, (lv_sub hl [0, 1, 2, 3] rfl)⟩
        · exact absurd (congrArg Int32.toInt c35) (by rw [nI_toInt (by omega)]; omega)
set_option maxHeartbeats 4000000 in
set_option maxRecDepth 100000 in
theorem cm_openT (l : Launch) (G : va_G) (cA : Nat → ClassId) (a : Nat → Nat) (V : MV) (t : Nat) (h30 : mnp V ≤ 30) (h60 : mnq V ≤ 60) (hkv : ¬ mkn V = 0 → mKn V) (hlb : mLb V) (ht : t < 2 ^ 31) : Met l yM_open wsM_open { frames := 3, cells := 0, slots := 0, locals := 68 } (mu_Pc G vwC2 (tT cA) (mW cA a V) [.ref (a 0), .int (nI t)]) (mu_Q G vwC2 (mW cA a V) (fun _ => some (.int (mOpA V (nI t)))) (mUp V 0) (fun u9 => mW cA a u9)) 0 0 (mu_A (mW cA a V)) := by
  refine Met.ofW (cc := cM_open) (maxL := 4) (ret := some .int) (by decide) rfl ?_
  intro p e s m args below meth c s₁ B hml hv
  obtain ⟨rfl, hP, hK, hD0⟩ := hv
  have hx := B.exec
  have hb := B.bytes
  have hr := B.returns
  have hts := atoms_spec (ws := wsM_open) B.pre
  have hown : s.vm.findClass RX1 = some m.cls := findClass_of_methodNamed B.named
  have hlocks := B.notSynchronized
  have hD := mu_own hD0
  have hS : va_S (mu_A (mW cA a V)) s.heap s.heap [] := va_S.rf
  have hfi : ∀ w ∈ u_ws RX1 TM 18, w ∈ wsM_open := fun w h => List.mem_cons_of_mem _ (wMA_f w h)
  have hl := lv_entry ([.ref (a 0), .int (nI t)]) (n := 4) (Nat.le_of_ble_eq_true rfl)
  rw [lg_entry_eq]
  generalize (lg_sl ([.ref (a 0), .int (nI t)]) ++ List.replicate (4 - (lg_sl ([.ref (a 0), .int (nI t)])).length) Slot.unset).toArray = ls at hl ⊢
  have hl : lv_has ls 4 [(0, .ref (a 0)), (1, .int (nI t))] := hl
  have htl : ∀ q0, mTo V q0 ≤ mnq V := fun q0 => pu_cnt_le _ _ _
  refine lv_aload_n hx hb dM_open_0 rfl (lv_at hl 0 rfl) ?_
  refine lv_iconst (v := 0) hx hb dM_open_1 (by decide) ?_
  refine va_put (D := G) (ci := 1) (v := .int 0) (ty := .int) (C := RX1) (T := TM) (N := 18) hx hb hts hfi tyM tyM_ok nmM hown hK hP hD hS 0 rfl rfl 0 (by decide) (hts (.fieldLink RX1 54 "PortRulesModel" "code" "I") (by decide +kernel)) (fun _ h9 => h9) rfl (by decide +kernel) rfl rfl (Nat.le_of_ble_eq_true rfl) dM_open_2 (fun H locs hP hD hS => ?_)
  have hP : va_P G vwC2 (mW cA a (mnp V, mnq V, 0, mkn V, mf V, mg V)) H := hP
  have hD : va_D (mu_A (mW cA a V)) (mW cA a (mnp V, mnq V, 0, mkn V, mf V, mg V)) := hD
  refine lv_iconst (v := nI 0) hx hb dM_open_5 (by decide) ?_
  refine lv_istore_n (lv' := [(2, .int (nI 0)), (0, .ref (a 0)), (1, .int (nI t))]) hx hb dM_open_6 rfl hl (by decide) rfl (fun ls hl => ?_)
  refine lv_iconst (v := nI 1) hx hb dM_open_7 (by decide) ?_
  refine lv_istore_n (lv' := [(3, .int (nI 1)), (2, .int (nI 0)), (0, .ref (a 0)), (1, .int (nI t))]) hx hb dM_open_8 rfl hl (by decide) rfl (fun ls hl => ?_)
  refine mu_loop (H0 := s.heap) (fun k ls H locs => ∃ (i n : Nat) (kn : Int32) (r : Nat → Int32), 1 ≤ i ∧ i + k = mnq V + 1 ∧ n + k ≤ mnq V ∧ n ≤ t ∧ pu_nth (fun q0 => mRd V q0 && decide (mTo V q0 = 0)) k i (t - n) = mOp V t ∧ (¬ kn = 0 → mKn (mnp V, mnq V, 0, kn, va_up (mf V) 16 r, mg V)) ∧ va_P G vwC2 (mW cA a (mnp V, mnq V, 0, kn, va_up (mf V) 16 r, mg V)) H ∧ va_D (mu_A (mW cA a V)) (mW cA a (mnp V, mnq V, 0, kn, va_up (mf V) 16 r, mg V)) ∧ va_S (mu_A (mW cA a V)) s.heap H locs ∧ lv_has ls 4 [(3, .int (nI i)), (2, .int (nI n)), (0, .ref (a 0)), (1, .int (nI t))]) ?_ (mnq V) ls H locs ⟨1, 0, mkn V, mf V 16, by omega, by omega, by omega, by omega, rfl, by rw [va_up_id]; exact hkv, by rw [va_up_id]; exact hP, by rw [va_up_id]; exact hD, hS, (lv_sub hl [0, 1, 2, 3] rfl)⟩
  intro k9 ls H locs ⟨i, n, kn, r, hi, hk, hnk, hnt, hN, hkw, hP, hD, hS, hl⟩ ih9
  refine lv_iload_n hx hb dM_open_9 rfl (lv_at hl 0 rfl) ?_
  refine lv_aload_n hx hb dM_open_10 rfl (lv_at hl 2 rfl) ?_
  refine va_get (D := G) (ci := 1) (v := .int (nI (mnq V))) (C := RX1) (T := TM) (N := 18) hx hb hts hfi hown hK hP 0 rfl rfl 3 (by decide) (hts (.fieldLink RX1 71 "PortRulesModel" "ports" "I") (by decide +kernel)) (fun _ h9 => h9) rfl dM_open_11 ?_
  refine nb_gt (tgt := 49) hx hb dM_open_14 (by decide) (by omega) (by omega) (fun c14 => ?_) (fun c14 => ?_)
  · refine lv_iconst (v := nI 0) hx hb dM_open_49 (by decide) ?_
    exact mu_iret ((mnp V, mnq V, 0, kn, va_up (mf V) 16 r, mg V)) hx hb hr hS hP (⟨kn, r, rfl, hkw⟩) (by rw [mOpA_t V ht, ← hN, show k9 = 0 by omega]; rfl) dM_open_50 hlocks
  · obtain ⟨k9, rfl⟩ : ∃ z, k9 = z + 1 := ⟨k9 - 1, by omega⟩
    refine lv_aload_n hx hb dM_open_17 rfl (lv_at hl 2 rfl) ?_
    refine lv_iload_n hx hb dM_open_18 rfl (lv_at hl 0 rfl) ?_
    refine rd_callV (As := [.int (nI i)]) (rest := []) (b := a 0) (q0 := 0) (ci := 1) ⟨hx, hb, hml, hown, hts⟩ (cm_isReading l G cA a ((mnp V, mnq V, 0, kn, va_up (mf V) 16 r, mg V)) i h30 (by omega)) (cwV 1 hts gM_open_M_isReading rfl rfl rfl (by decide +kernel) ⟨Nat.le_of_ble_eq_true rfl, Nat.le_of_ble_eq_true rfl⟩) hK hP rfl rfl rfl rfl hl.1 rfl (Nat.le_of_ble_eq_true rfl) dM_open_19 ⟨Nat.zero_le _, Nat.zero_le _⟩ ?_
    refine bb_eq (b := (mRd V i)) (tgt := 43) hx hb dM_open_22 (by decide) (fun c22 => ?_) (fun c22 => ?_)
    · refine lv_iinc (v := nI (i + 1)) (lv' := [(3, .int (nI (i + 1))), (2, .int (nI n)), (0, .ref (a 0)), (1, .int (nI t))]) hx hb dM_open_43 hl (k := 0) rfl (ni_inc _) (by decide) rfl (fun ls hl => ?_)
      refine lv_goto (tgt := 9) hx hb dM_open_46 (by decide) ?_
      exact ih9 k9 ls H locs (by omega) ⟨i + 1, n, kn, r, by omega, by omega, by omega, by omega, (pu_nth_f (P := (fun q0 => mRd V q0 && decide (mTo V q0 = 0))) (by simp [c22])).symm.trans hN, hkw, hP, hD, hS, (lv_sub hl [0, 1, 2, 3] rfl)⟩
    · refine lv_aload_n hx hb dM_open_25 rfl (lv_at hl 2 rfl) ?_
      refine lv_iload_n hx hb dM_open_26 rfl (lv_at hl 0 rfl) ?_
      refine mu_callV (As := [.int (nI i)]) (rest := []) (b := a 0) (q0 := 0) (ci := 1) ⟨hx, hb, hml, hown, hts⟩ (cm_leadTo l G cA a ((mnp V, mnq V, 0, kn, va_up (mf V) 16 r, mg V)) i h30 h60 hkw hlb (by omega) (by omega)) (cwV 1 hts gM_open_M_leadTo rfl rfl rfl (by decide +kernel) ⟨Nat.le_of_ble_eq_true rfl, Nat.le_of_ble_eq_true rfl⟩) hK hP hD hS rfl rfl rfl (fun _ _ => rfl) rfl hl.1 rfl (Nat.le_of_ble_eq_true rfl) dM_open_27 ⟨Nat.zero_le _, Nat.zero_le _⟩ (fun u9 H locs hu9 hP hD hS => ?_)
      obtain ⟨kn, r, hk0, rfl, hkn⟩ := hu9
      have hP : va_P G vwC2 (mW cA a (mnp V, mnq V, 0, kn, va_up (mf V) 16 r, mg V)) H := hP
      have hD : va_D (mu_A (mW cA a V)) (mW cA a (mnp V, mnq V, 0, kn, va_up (mf V) 16 r, mg V)) := hD
      have hkw : ¬ kn = 0 → mKn (mnp V, mnq V, 0, kn, va_up (mf V) 16 r, mg V) := fun _ => hkn
      refine W.eq (g2 := F0 m 30 ls [.int (nI (mTo V i))]) rfl ?_
      refine bn_ne (tgt := 43) hx hb dM_open_30 (by decide) (by have h := htl i; omega) (fun c30 => ?_) (fun c30 => ?_)
      · refine lv_iinc (v := nI (i + 1)) (lv' := [(3, .int (nI (i + 1))), (2, .int (nI n)), (0, .ref (a 0)), (1, .int (nI t))]) hx hb dM_open_43 hl (k := 0) rfl (ni_inc _) (by decide) rfl (fun ls hl => ?_)
        refine lv_goto (tgt := 9) hx hb dM_open_46 (by decide) ?_
        exact ih9 k9 ls H locs (by omega) ⟨i + 1, n, kn, r, by omega, by omega, by omega, by omega, (pu_nth_f (P := (fun q0 => mRd V q0 && decide (mTo V q0 = 0))) (by simp [c22, c30])).symm.trans hN, hkw, hP, hD, hS, (lv_sub hl [0, 1, 2, 3] rfl)⟩
      · refine lv_iload_n hx hb dM_open_33 rfl (lv_at hl 1 rfl) ?_
        refine lv_iload_n hx hb dM_open_34 rfl (lv_at hl 3 rfl) ?_
        refine nb_ne (tgt := 40) hx hb dM_open_35 (by decide) (by omega) (by omega) (fun c35 => ?_) (fun c35 => ?_)
        · refine lv_iinc (v := nI (n + 1)) (lv' := [(2, .int (nI (n + 1))), (3, .int (nI i)), (0, .ref (a 0)), (1, .int (nI t))]) hx hb dM_open_40 hl (k := 1) rfl (ni_inc _) (by decide) rfl (fun ls hl => ?_)
          refine lv_iinc (v := nI (i + 1)) (lv' := [(3, .int (nI (i + 1))), (2, .int (nI (n + 1))), (0, .ref (a 0)), (1, .int (nI t))]) hx hb dM_open_43 hl (k := 1) rfl (ni_inc _) (by decide) rfl (fun ls hl => ?_)
          refine lv_goto (tgt := 9) hx hb dM_open_46 (by decide) ?_
          exact ih9 k9 ls H locs (by omega) ⟨i + 1, n + 1, kn, r, by omega, by omega, by omega, by omega, (show pu_nth (fun q0 => mRd V q0 && decide (mTo V q0 = 0)) k9 (i + 1) (t - (n + 1)) = _ by rw [show t - (n + 1) = t - n - 1 by omega]; exact (pu_nth_n (P := (fun q0 => mRd V q0 && decide (mTo V q0 = 0))) (by simp [c22, c30]) (by omega)).symm.trans hN), hkw, hP, hD, hS, (lv_sub hl [0, 1, 2, 3] rfl)⟩
        · refine lv_iload_n hx hb dM_open_38 rfl (lv_at hl 0 rfl) ?_
          exact mu_iret ((mnp V, mnq V, 0, kn, va_up (mf V) 16 r, mg V)) hx hb hr hS hP (⟨kn, r, rfl, hkw⟩) (by rw [mOpA_t V ht, ← hN, pu_nth_t (P := (fun q0 => mRd V q0 && decide (mTo V q0 = 0))) (by simp [c22, c30]) (by omega)]) dM_open_39 hlocks
theorem cm_open (l : Launch) (G : va_G) (cA : Nat → ClassId) (a : Nat → Nat) (V : MV) (x : Int32) (h30 : mnp V ≤ 30) (h60 : mnq V ≤ 60) (hkv : ¬ mkn V = 0 → mKn V) (hlb : mLb V) : Met l yM_open wsM_open { frames := 3, cells := 0, slots := 0, locals := 68 } (mu_Pc G vwC2 (tT cA) (mW cA a V) [.ref (a 0), .int x]) (mu_Q G vwC2 (mW cA a V) (fun _ => some (.int (mOpA V x))) (mUp V 0) (fun u9 => mW cA a u9)) 0 0 (mu_A (mW cA a V)) := by
  rcases i32_neg x with h | ⟨t, ht, rfl⟩
  · exact cm_openN l G cA a V x h30 h60 hkv hlb h
  · exact cm_openT l G cA a V t h30 h60 hkv hlb ht
