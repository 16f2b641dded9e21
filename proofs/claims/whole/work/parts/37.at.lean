/-! X.at: an answer, or the throw -/
abbrev ioob : String := "java/lang/IndexOutOfBoundsException"
def xFc (V : XV) (x : Int32) : Nat := if x.toInt < 0 then 0 else pu_at (xF V) (xnq V) (xnq V) 1 x.toNatClampNeg
def xAtA (V : XV) (x w : Int32) : Int32 := if w = 0 then nI (xFc V x / 61) else nI (xFc V x % 61)
theorem xFc_t (V : XV) {t : Nat} (ht : t < 2 ^ 31) : xFc V (nI t) = pu_at (xF V) (xnq V) (xnq V) 1 t := by
  unfold xFc
  rw [if_neg (by rw [nI_toInt ht]; omega), nI_clamp ht]
theorem ni_sub {u c : Nat} (h : c ≤ u) : nI u - nI c = nI (u - c) := by
  obtain ⟨d, rfl⟩ : ∃ d, u = d + c := ⟨u - c, by omega⟩
  rw [Nat.add_sub_cancel, ← nI_add, Int32.add_sub_cancel]
abbrev at_P (G : va_G) (cA : Nat → ClassId) (a : Nat → Nat) (V : XV) (sa : Nat) (av : List Value) : Array Value → State → Prop := va_Pc av (fun U => va_P G vwC2 (xW cA a V) U.heap ∧ va_K G vwC2 (tT cA) U ∧ vxS sa U U.heap (fun _ => False))
set_option maxHeartbeats 4000000 in
set_option maxRecDepth 100000 in
theorem cx_at (l : Launch) (hst : l.stackTraces = false) (G : va_G) (cA : Nat → ClassId) (a : Nat → Nat) (V : XV) (sa : Nat) (x w0 : Int32) (hok : xOK V) : vx_Met l yX0_at wsX0_at { frames := 6, cells := 1, slots := 6, locals := 82 } (at_P G cA a V sa [.ref (a 0), .int x, .int w0])
    (va_Qi (fun (r : Int32) (_ : Unit) => ¬ xFc V x = 0 ∧ r = xAtA V x w0) (fun _ _ => True) (fun _ => False)) (vx_X (fun _ : Unit => xFc V x = 0) (fun E _ _ => E = ioob) (fun _ => False)) 1 6 (fun _ => False) := by
  refine vx_ofW (cc := cX0_at) (maxL := 8) (ret := some .int) (by decide) rfl ?_
  intro p e s m args below meth c s₁ B hml htab hv
  obtain ⟨rfl, hP, hK, hU, hN, hR0, hB⟩ := hv
  have h60 : xnq V ≤ 60 := hok.2.1
  have hx := B.exec
  have hb := B.bytes
  have hr := B.returns
  have hts := atoms_spec (ws := wsX0_at) B.pre
  have hown : s.vm.findClass RX0 = some m.cls := findClass_of_methodNamed B.named
  have hlocks := B.notSynchronized
  have hfi : ∀ w ∈ u_ws RX0 TX0 19, w ∈ wsX0_at := by decide +kernel
  have hat : ∀ w ∈ vxI, w.before #[Value.ref (a 0), Value.int x, Value.int w0] s = true := by
    intro w hw
    cases hg : goodWord w with
    | true => exact hts w (List.mem_cons_of_mem _ (List.mem_append_right _ (List.mem_filter.mpr ⟨hw, hg⟩)))
    | false =>
      have hm : w ∈ vxI.filter (fun w => !goodWord w) := List.mem_filter.mpr ⟨hw, by rw [hg]; rfl⟩
      have hq := List.all_eq_true.mp vxI_face w hm
      rw [Bool.and_eq_true] at hq
      exact face_warm hq.1 hq.2 (Vm.Alike.refl s.vm) (hB w hm)
  have thr : ∀ (ls : Array Slot), ls.size = 8 → xFc V x = 0 → W p l e { frames := 6, cells := 1, slots := 6, locals := 82 } s m #[Value.ref (a 0), Value.int x, Value.int w0] below meth c s.heap [] 0 0 (vx_MQ below (va_Qi (fun (r : Int32) (_ : Unit) => ¬ xFc V x = 0 ∧ r = xAtA V x w0) (fun _ _ => True) (fun _ => False)) (vx_X (fun _ : Unit => xFc V x = 0) (fun E _ _ => E = ioob) (fun _ => False)) #[Value.ref (a 0), Value.int x, Value.int w0] s 1 6 (fun _ => False)) (F0 m 67 ls []) := by
    intro ls hz h0
    exact vx_throwS (own := RX0) (cls := ioob) (names := ["java/lang/RuntimeException", "java/lang/Exception"]) (text := "no such flat connector") (sa := sa) (A := fun _ => False) hx hb hst hown (by decide +kernel) (by decide +kernel) (hts (.classLink RX0 117 ioob) (by decide +kernel)) (hts (.initialized ioob) (by decide +kernel)) hR0 hat (List.all_eq_true.mp vxI_ot) hU hN va_S.rf (by rw [hml]; exact hz) dX0_at_67 dX0_at_70 dX0_at_71 dX0_at_73 dX0_at_76 (fun z hz => (htab z hz).elim) (by decide) (by decide) (by decide) (by decide) hlocks
      (fun t _ h1 h2 => ⟨(), h0, rfl, h1, fun q h3 _ => h2 q h3⟩) (fun z hz => nomatch hz) (by decide) (by decide)
  have ret : ∀ (ls : Array Slot) (v : Int32), ¬ xFc V x = 0 → v = xAtA V x w0 → W p l e { frames := 6, cells := 1, slots := 6, locals := 82 } s m #[Value.ref (a 0), Value.int x, Value.int w0] below meth c s.heap [] 0 0 (vx_MQ below (va_Qi (fun (r : Int32) (_ : Unit) => ¬ xFc V x = 0 ∧ r = xAtA V x w0) (fun _ _ => True) (fun _ => False)) (vx_X (fun _ : Unit => xFc V x = 0) (fun E _ _ => E = ioob) (fun _ => False)) #[Value.ref (a 0), Value.int x, Value.int w0] s 1 6 (fun _ => False)) (F0 m 55 ls [.int v]) := by
    intro ls v h0 hv
    refine W.widen (k := 1) (n := 6) (by decide) (by decide) ?_
    exact vx_ret (W.iret hx hb hr (fun t ht _ => ⟨⟨v, (), rfl, ⟨h0, hv⟩, trivial⟩, ⟨by rw [ht]; exact Nat.le_refl _, fun q h1 h2 => by rw [ht]⟩⟩) (fun q h => absurd h List.not_mem_nil) dX0_at_55 hlocks)
  have hl := lv_entry ([.ref (a 0), .int x, .int w0]) (n := 8) (Nat.le_of_ble_eq_true rfl)
  rw [lg_entry_eq]
  generalize (lg_sl ([.ref (a 0), .int x, .int w0]) ++ List.replicate (8 - (lg_sl ([.ref (a 0), .int x, .int w0])).length) Slot.unset).toArray = ls at hl ⊢
  have hl : lv_has ls 8 [(0, .ref (a 0)), (1, .int x), (2, .int w0)] := hl
  refine lv_iload_n hx hb dX0_at_0 rfl (lv_at hl 1 rfl) ?_
  refine lv_istore_n (lv' := [(3, .int x), (0, .ref (a 0)), (1, .int x), (2, .int w0)]) hx hb dX0_at_1 rfl hl (by decide) rfl (fun ls hl => ?_)
  refine lv_iconst (v := nI 1) hx hb dX0_at_2 (by decide) ?_
  refine lv_istore (lv' := [(4, .int (nI 1)), (3, .int x), (0, .ref (a 0)), (1, .int x), (2, .int w0)]) hx hb dX0_at_3 hl (by decide) rfl (fun ls hl => ?_)
  rcases i32_neg x with hneg | ⟨t, ht, rfl⟩
  · refine lv_iload hx hb dX0_at_5 (lv_at hl 0 rfl) ?_
    refine lv_aload_n hx hb dX0_at_7 rfl (lv_at hl 2 rfl) ?_
    refine va_get (D := G) (ci := 0) (v := .int (nI (xnq V))) (C := RX0) (T := TX0) (N := 19) hx hb hts hfi hown hK hP 0 rfl rfl 4 (by decide) (hts (.fieldLink RX0 75 "PortRules" "portCount" "I") (by decide +kernel)) (fun _ h9 => h9) rfl dX0_at_8 ?_
    have h0 : xFc V x = 0 := if_pos hneg
    refine nb_gt (tgt := 67) hx hb dX0_at_11 (by decide) (by omega) (by omega) (fun c11 => ?_) (fun c11 => ?_)
    · exact thr ls hl.1 h0
    · refine lv_iload_n hx hb dX0_at_14 rfl (lv_at hl 1 rfl) ?_
      refine bz_lt (a := x.toInt) (tgt := 67) hx hb dX0_at_15 (by decide) rfl (fun c15 => ?_) (fun c15 => absurd c15 (by omega))
      exact thr ls hl.1 h0
  · refine rd_loop (fun k ls => ∃ i u : Nat, 1 ≤ i ∧ i + k = xnq V + 1 ∧ u < 2 ^ 31 ∧ pu_at (xF V) (xnq V) k i u = xFc V (nI t) ∧ lv_has ls 8 [(4, .int (nI i)), (3, .int (nI u)), (0, .ref (a 0)), (1, .int (nI t)), (2, .int w0)]) ?_ (xnq V) ls ⟨1, t, by omega, by omega, ht, (xFc_t V ht).symm, hl⟩
    intro k ls ⟨i, u, hi, hk, hu, hR, hl⟩ ih
    refine lv_iload hx hb dX0_at_5 (lv_at hl 0 rfl) ?_
    refine lv_aload_n hx hb dX0_at_7 rfl (lv_at hl 2 rfl) ?_
    refine va_get (D := G) (ci := 0) (v := .int (nI (xnq V))) (C := RX0) (T := TX0) (N := 19) hx hb hts hfi hown hK hP 0 rfl rfl 4 (by decide) (hts (.fieldLink RX0 75 "PortRules" "portCount" "I") (by decide +kernel)) (fun _ h9 => h9) rfl dX0_at_8 ?_
    refine nb_gt (tgt := 67) hx hb dX0_at_11 (by decide) (by omega) (by omega) (fun c11 => ?_) (fun c11 => ?_)
    · refine thr ls hl.1 ?_
      rw [← hR, show k = 0 by omega]
      rfl
    obtain ⟨k, rfl⟩ : ∃ z, k = z + 1 := ⟨k - 1, by omega⟩
    refine lv_iload_n hx hb dX0_at_14 rfl (lv_at hl 1 rfl) ?_
    refine bz_lt (a := (u : Int)) (tgt := 67) hx hb dX0_at_15 (by decide) (nI_toInt hu) (fun c15 => absurd c15 (by omega)) (fun c15 => ?_)
    refine lv_aload_n hx hb dX0_at_18 rfl (lv_at hl 2 rfl) ?_
    refine lv_iload hx hb dX0_at_19 (lv_at hl 0 rfl) ?_
    refine rd_callV (As := [.int (nI i)]) (rest := []) (b := a 0) (q0 := 0) (ci := 0) ⟨hx, hb, hml, hown, hts⟩ (cx_flatFrom l G cA a V i (by omega)) (cwV 1 hts gX0_at_X0_flatFrom rfl rfl rfl (by decide +kernel) ⟨Nat.le_of_ble_eq_true rfl, Nat.le_of_ble_eq_true rfl⟩) hK hP rfl rfl rfl rfl hl.1 rfl (Nat.le_of_ble_eq_true rfl) dX0_at_21 ⟨Nat.zero_le _, Nat.zero_le _⟩ ?_
    refine lv_lstore (lv' := [(5, .long (xFl V i)), (4, .int (nI i)), (3, .int (nI u)), (0, .ref (a 0)), (1, .int (nI t)), (2, .int w0)]) hx hb dX0_at_24 hl (by decide) rfl (fun ls hl => ?_)
    refine lv_lload hx hb dX0_at_26 (lv_at hl 0 rfl) ?_
    refine rd_callS (As := [.long (xFl V i)]) (rest := []) ⟨hx, hb, hml, hown, hts⟩ (cx_bitCount l (xFl V i)) (va_cwS 1 hts gX0_at_J13_bitCount_95d88 rfl rfl rfl (by decide +kernel) ⟨Nat.le_of_ble_eq_true rfl, Nat.le_of_ble_eq_true rfl⟩) rfl hl.1 rfl (Nat.le_of_ble_eq_true rfl) dX0_at_28 ⟨Nat.zero_le _, Nat.zero_le _⟩ ?_
    refine rd_topi (y := nI (pu_cnt (xF V i) (xnq V) 1)) (congrArg nI (xF_cnt hok i)) ?_
    have hcl := pu_cnt_le (xF V i) (xnq V) 1
    generalize hcn : pu_cnt (xF V i) (xnq V) 1 = cn at hcl ⊢
    refine lv_istore (lv' := [(7, .int (nI cn)), (5, .long (xFl V i)), (4, .int (nI i)), (3, .int (nI u)), (0, .ref (a 0)), (1, .int (nI t)), (2, .int w0)]) hx hb dX0_at_31 hl (by decide) rfl (fun ls hl => ?_)
    refine lv_iload_n hx hb dX0_at_33 rfl (lv_at hl 3 rfl) ?_
    refine lv_iload hx hb dX0_at_34 (lv_at hl 0 rfl) ?_
    refine nb_ge (tgt := 56) hx hb dX0_at_36 (by decide) (by omega) (by omega) (fun c36 => ?_) (fun c36 => ?_)
    · refine lv_iload_n hx hb dX0_at_56 rfl (lv_at hl 3 rfl) ?_
      refine lv_iload hx hb dX0_at_57 (lv_at hl 0 rfl) ?_
      refine lv_isub hx hb dX0_at_59 ?_
      refine rd_topi (y := nI (u - cn)) (ni_sub c36) ?_
      refine lv_istore_n (lv' := [(3, .int (nI (u - cn))), (7, .int (nI cn)), (5, .long (xFl V i)), (4, .int (nI i)), (0, .ref (a 0)), (1, .int (nI t)), (2, .int w0)]) hx hb dX0_at_60 rfl hl (by decide) rfl (fun ls hl => ?_)
      refine lv_iinc (v := nI (i + 1)) (lv' := [(4, .int (nI (i + 1))), (3, .int (nI (u - cn))), (7, .int (nI cn)), (5, .long (xFl V i)), (0, .ref (a 0)), (1, .int (nI t)), (2, .int w0)]) hx hb dX0_at_61 hl (k := 3) rfl (ni_inc _) (by decide) rfl (fun ls hl => ?_)
      refine lv_goto (tgt := 5) hx hb dX0_at_64 (by decide) ?_
      exact ih k ls (by omega) ⟨i + 1, u - cn, by omega, by omega, by omega, by rw [← hR, pu_at_n (by omega), hcn], lv_sub hl [0, 1, 4, 5, 6] rfl⟩
    · have hin := pu_nth_in (P := xF V i) (xnq V) 1 u (by omega)
      have hval : xFc V (nI t) = 61 * i + pu_nth (xF V i) (xnq V) 1 u := by rw [← hR, pu_at_y (by omega)]
      refine lv_iload_n hx hb dX0_at_39 rfl (lv_at hl 6 rfl) ?_
      refine lv_if_ne (tgt := 48) hx hb dX0_at_40 (by decide) (fun c40 => ?_) (fun c40 => ?_)
      · refine lv_aload_n hx hb dX0_at_48 rfl (lv_at hl 4 rfl) ?_
        refine lv_lload hx hb dX0_at_49 (lv_at hl 1 rfl) ?_
        refine lv_iload_n hx hb dX0_at_51 rfl (lv_at hl 3 rfl) ?_
        refine rd_callV (As := [.long (xFl V i), .int (nI u)]) (rest := []) (b := a 0) (q0 := 0) (ci := 0) ⟨hx, hb, hml, hown, hts⟩ (cx_nthPort l G cA a V (xFl V i) u h60 (by omega)) (cwV 2 hts gX0_at_X0_nthPort rfl rfl rfl (by decide +kernel) ⟨Nat.le_of_ble_eq_true rfl, Nat.le_of_ble_eq_true rfl⟩) hK hP rfl rfl rfl rfl hl.1 rfl (Nat.le_of_ble_eq_true rfl) dX0_at_52 ⟨Nat.zero_le _, Nat.zero_le _⟩ ?_
        refine ret ls _ (by omega) ?_
        unfold xAtA
        rw [if_neg c40, hval, show (61 * i + pu_nth (xF V i) (xnq V) 1 u) % 61 = pu_nth (xF V i) (xnq V) 1 u by omega]
        rfl
      · refine lv_iload hx hb dX0_at_43 (lv_at hl 2 rfl) ?_
        refine lv_goto (tgt := 55) hx hb dX0_at_45 (by decide) ?_
        refine ret ls _ (by omega) ?_
        unfold xAtA
        rw [if_pos c40, hval, show (61 * i + pu_nth (xF V i) (xnq V) 1 u) / 61 = i by omega]
