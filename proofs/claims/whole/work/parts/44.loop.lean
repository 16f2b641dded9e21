/-! THE LAW'S LOOP -/
set_option maxHeartbeats 4000000 in
set_option maxRecDepth 100000 in
theorem law_step {p : Program} {e : Env} {s : State} {m : MethodId} {below : List Frame} {meth : Method} {c : Code} {l : Launch} (hstk : l.stackTraces = false) {b L j sa ob : Nat} {xs : Nat → Int32} {G : va_G} {cA : Nat → ClassId} {ax am : Nat → Nat} {V : XV} {M : MV} {H : Heap} {locs : List Loc} {ls : Array Slot} (C0 : lw_At p s m meth c b L xs) (hK : va_K G vwC2 (tT cA) s) (hZ : vxS sa s s.heap (fun q => s.heap.size ≤ q)) (hL : L ≤ 3584) (hj : 7 * j ≤ L) (hI : LI s G cA ax am ob H locs V M) (hl : lv_has ls 7 [(4, .int (nI (7 * j))), (0, .ref b), (1, .ref (ax 0)), (2, .ref (am 0)), (3, .ref ob)])
    (kk : 7 * j + 7 ≤ L → ∀ (V : XV) (M : MV) (H : Heap) (locs : List Loc) (ls : Array Slot), LI s G cA ax am ob H locs V M → lv_has ls 7 [(4, .int (nI (7 * (j + 1)))), (0, .ref b), (1, .ref (ax 0)), (2, .ref (am 0)), (3, .ref ob)] → W p l e room_1 s m #[Value.ref b] below meth c H locs (32 + (j + 1)) (8935 + 6 * (j + 1)) (lw_Z below #[Value.ref b] s) (F0 m 23 ls [])) : W p l e room_1 s m #[Value.ref b] below meth c H locs (32 + j) (8935 + 6 * j) (lw_Z below #[Value.ref b] s) (F0 m 23 ls []) := by
  obtain ⟨hx, hb, hr, hml, hown0, hts, hX, hbl, hlocks, hgv⟩ := id C0
  have hbA : ¬ s.heap.size ≤ b := Nat.not_le.mpr hbl
  have hS : va_S (fun q => s.heap.size ≤ q) s.heap H locs := by obtain ⟨_, _, _, _, _, h, _⟩ := hI; exact h
  refine lv_iload hx hb dL_law_23 (lv_at hl 0 rfl) ?_
  refine lv_aload_n hx hb dL_law_25 rfl (lv_at hl 1 rfl) ?_
  refine va_slen (A := fun q => s.heap.size ≤ q) hx hb hX hbl hbA hS dL_law_26 ?_
  refine lv_bipush (v := 7) hx hb dL_law_27 (by decide) ?_
  refine lv_isub hx hb dL_law_29 ?_
  refine bi_gt (a := ((7 * j : Nat) : Int)) (b := (L : Int) - 7) (tgt := 631) hx hb dL_law_30 (by decide) (nI_toInt (by omega)) (lw_len hL) (fun c30 => ?_) (fun c30 => ?_)
  · refine va_forget hS.2.2 ?_
    refine lv_iconst (v := 1) hx hb dL_law_631 (by decide) ?_
    refine W.widen (k := 1057) (n := 17133) (by omega) (by omega) ?_
    exact lw_ret hx hb hr hlocks dL_law_632
  · have hi : 7 * j + 7 ≤ L := by omega
    have k6 : ∀ (V : XV) (M : MV) (H : Heap) (locs : List Loc) (ls : Array Slot), LI s G cA ax am ob H locs V M → lv_has ls 7 [(4, .int (nI (7 * j))), (0, .ref b), (1, .ref (ax 0)), (2, .ref (am 0)), (3, .ref ob)] → W p l e room_1 s m #[Value.ref b] below meth c H locs (32 + j + 1) (8935 + 6 * j + 6) (lw_Z below #[Value.ref b] s) (F0 m 625 ls []) := by
      intro V M H locs ls hI hl
      refine lv_iinc (v := nI (7 * (j + 1))) (lv' := [(4, .int (nI (7 * (j + 1)))), (0, .ref b), (1, .ref (ax 0)), (2, .ref (am 0)), (3, .ref ob)]) hx hb dL_law_625 hl (k := 0) rfl (nI_add (7 * j) 7) (by decide) rfl (fun ls hl => ?_)
      refine lv_goto (tgt := 23) hx hb dL_law_628 (by decide) ?_
      exact kk hi V M H locs ls hI hl
    have hc : 32 + j + 1 ≤ 1057 := by omega
    have hsl : 8935 + 6 * j + 6 ≤ 17133 := by omega
    refine lv_aload_n hx hb dL_law_33 rfl (lv_at hl 1 rfl) ?_
    refine lv_iload hx hb dL_law_34 (lv_at hl 0 rfl) ?_
    refine ls_sld (A := fun q => s.heap.size ≤ q) hx hb hX hbl hbA hS (by omega) (by omega) dL_law_36 ?_
    refine lv_bipush (v := 15) hx hb dL_law_37 (by decide) ?_
    refine lv_iand hx hb dL_law_39 ?_
    refine lv_topi (fun x ex => ?_)
    by_cases ho : x.toInt < 0 ∨ 11 < x.toInt
    · refine lv_tableOut (tgt := 625) hx hb dL_law_40 ho (by decide) ?_
      refine W.widen (k := 32 + j + 1) (n := 8935 + 6 * j + 6) (by omega) (by omega) ?_
      exact k6 V M H locs ls hI hl
    have ho9 : ¬ x.toInt < 0 := fun h => ho (Or.inl h)
    have ho8 : ¬ 11 < x.toInt := fun h => ho (Or.inr h)
    rcases (show x.toInt = 0 ∨ x.toInt = 1 ∨ x.toInt = 2 ∨ x.toInt = 3 ∨ x.toInt = 4 ∨ x.toInt = 5 ∨ x.toInt = 6 ∨ x.toInt = 7 ∨ x.toInt = 8 ∨ x.toInt = 9 ∨ x.toInt = 10 ∨ x.toInt = 11 by omega) with hq | hq | hq | hq | hq | hq | hq | hq | hq | hq | hq | hq
    · exact lv_tableIn (off := 64) (tgt := 104) hx hb dL_law_40 ho9 ho8 (by rw [hq]; rfl) (by decide) (lc_part hstk C0 hK hZ hL hi hc hsl hI hl k6)
    · exact lv_tableIn (off := 89) (tgt := 129) hx hb dL_law_40 ho9 ho8 (by rw [hq]; rfl) (by decide) (lc_port hstk C0 hK hZ hL hi hc hsl hI hl k6)
    · exact lv_tableIn (off := 154) (tgt := 194) hx hb dL_law_40 ho9 ho8 (by rw [hq]; rfl) (by decide) (lc_unit hstk C0 hK hZ hL hi hc hsl hI hl k6)
    · exact lv_tableIn (off := 281) (tgt := 321) hx hb dL_law_40 ho9 ho8 (by rw [hq]; rfl) (by decide) (lc_connect hstk C0 hK hZ hL hi hc hsl hI hl k6)
    · exact lv_tableIn (off := 318) (tgt := 358) hx hb dL_law_40 ho9 ho8 (by rw [hq]; rfl) (by decide) (lc_flatten hstk C0 hK hZ hL hi hc hsl hI hl k6)
    · exact lv_tableIn (off := 331) (tgt := 371) hx hb dL_law_40 ho9 ho8 (by rw [hq]; rfl) (by decide) (lc_at hstk C0 hK hZ hL hi hc hsl hI hl k6)
    · exact lv_tableIn (off := 399) (tgt := 439) hx hb dL_law_40 ho9 ho8 (by rw [hq]; rfl) (by decide) (lc_check hstk C0 hK hZ hL hi hc hsl hI hl k6)
    · exact lv_tableIn (off := 412) (tgt := 452) hx hb dL_law_40 ho9 ho8 (by rw [hq]; rfl) (by decide) (lc_manager hstk C0 hK hZ hL hi hc hsl hI hl k6)
    · exact lv_tableIn (off := 449) (tgt := 489) hx hb dL_law_40 ho9 ho8 (by rw [hq]; rfl) (by decide) (lc_fallback hstk C0 hK hZ hL hi hc hsl hI hl k6)
    · exact lv_tableIn (off := 486) (tgt := 526) hx hb dL_law_40 ho9 ho8 (by rw [hq]; rfl) (by decide) (lc_queue hstk C0 hK hZ hL hi hc hsl hI hl k6)
    · exact lv_tableIn (off := 523) (tgt := 563) hx hb dL_law_40 ho9 ho8 (by rw [hq]; rfl) (by decide) (lc_version hstk C0 hK hZ hL hi hc hsl hI hl k6)
    · exact lv_tableIn (off := 560) (tgt := 600) hx hb dL_law_40 ho9 ho8 (by rw [hq]; rfl) (by decide) (lc_open hstk C0 hK hZ hL hi hc hsl hI hl k6)
theorem law_loop {p : Program} {e : Env} {s : State} {m : MethodId} {below : List Frame} {meth : Method} {c : Code} {l : Launch} (hstk : l.stackTraces = false) {b L sa ob : Nat} {xs : Nat → Int32} {G : va_G} {cA : Nat → ClassId} {ax am : Nat → Nat} (C0 : lw_At p s m meth c b L xs) (hK : va_K G vwC2 (tT cA) s) (hZ : vxS sa s s.heap (fun q => s.heap.size ≤ q)) (hL : L ≤ 3584) :
    ∀ (n j : Nat) (V : XV) (M : MV) (H : Heap) (locs : List Loc) (ls : Array Slot), 7 * j ≤ L → L < 7 * j + 7 * n + 7 → LI s G cA ax am ob H locs V M → lv_has ls 7 [(4, .int (nI (7 * j))), (0, .ref b), (1, .ref (ax 0)), (2, .ref (am 0)), (3, .ref ob)] → W p l e room_1 s m #[Value.ref b] below meth c H locs (32 + j) (8935 + 6 * j) (lw_Z below #[Value.ref b] s) (F0 m 23 ls []) := by
  intro n
  induction n with
  | zero => intro j V M H locs ls hj hn hI hl; exact law_step hstk C0 hK hZ hL hj hI hl (fun h => absurd h (by omega))
  | succ n ih => intro j V M H locs ls hj hn hI hl; exact law_step hstk C0 hK hZ hL hj hI hl (fun h V M H locs ls hI hl => ih (j + 1) V M H locs ls (by omega) (by omega) hI hl)
