/-! Arrays.fill; new arrays of a class that is known; a static write -/
def fillf (f : Nat → Int32) (v : Int32) (i : Nat) : Nat → Int32 := fun j => if j < i then v else f j
theorem fillf_0 (f : Nat → Int32) (v : Int32) : fillf f v 0 = f := by
  funext j
  unfold fillf
  rw [if_neg (by omega)]
theorem fillf_s (f : Nat → Int32) (v : Int32) (i : Nat) : upd (fillf f v i) i v = fillf f v (i + 1) := by
  funext j
  unfold upd fillf
  by_cases h : j = i
  · rw [if_pos h, if_pos (by omega)]
  · rw [if_neg h]
    by_cases h2 : j < i
    · rw [if_pos h2, if_pos (by omega)]
    · rw [if_neg h2, if_neg (by omega)]
section NW
variable {p : Program} {l : Launch} {e : Env} {R : Room} {s : State} {m : MethodId} {args : Array Value} {below : List Frame} {meth : Method} {c : Code} {H : Heap} {locs : List Loc} {cells slots : Nat} {Q : State → Prop}
variable {cc : ByteArray} {pc : Nat} {ls : Array Slot} {rest st0 : List Value} {D : va_G} {cl : List vw_C} {tys : List (ClassId × FieldType)} {ws : va_W} {A : Nat → Prop} {H0 : Heap}
/-- an array is made; its class stands in the list -/
theorem nw_arr (hexec : p.tables.exec = Jvm.exec) (hb : c.code = cc) {atype : ArrayType} {ty : FieldType} (harr : (Cond.arrayClass ty).before args s = true) (hty : newarray.typeOf atype = ty) (hK : va_K D cl tys s) (hP : va_P D cl ws H) (hD : va_D A ws) (hS : va_S A H0 H locs) (hA : ∀ q, H0.size ≤ q → A q)
    (t0 : Nat) {cA : ClassId} (ht : tys[t0]? = some (cA, ty)) (hno : ∀ cN : ClassId, va_RA s cN ty → s.vm.findClass ("[" ++ ty.toString) = some cN)
    {n : Int32} {N' : Nat} {a0 : vp_A} (ha : ∀ cA : ClassId, vp_cell cA a0 = arrV cA N' (fun _ => defaultValue ty)) (hn : ¬ n < 0) (hN : n.toNatClampNeg = N') (hbytes : N' * componentBytes ty ≤ 536870912) (hcells : cells + 1 ≤ R.cells) (hslots : slots + N' ≤ R.slots) (hdg : decode cc pc = .ok (.newarray atype, 2))
    (kk : ∀ (q : Nat) (H1 : Heap), va_P D cl (ws ++ [(q, .inl (cA, a0))]) H1 → va_D A (ws ++ [(q, .inl (cA, a0))]) → va_S A H0 H1 locs →
      W p l e R s m args below meth c H1 locs (cells + 1) (slots + N') Q (F0 m (pc + 2) ls (.ref q :: rest))) : W p l e R s m args below meth c H locs cells slots Q (F0 m pc ls (.int n :: rest)) := by
  subst hty
  refine va_newa hexec hb harr rfl hK hP hD hS hA ha hn hN hbytes hcells hslots hdg fun q cN H1 hK1 hP1 hD1 hS1 => ?_
  have h1 := hno cN (hK1.2 tys.length (cN, newarray.typeOf atype) (by rw [List.getElem?_append_right (Nat.le_refl _), Nat.sub_self]; rfl)).2
  have h2 := hno cA (hK.2 t0 _ ht).2
  have e9 : cN = cA := Option.some.inj (h1.symm.trans h2)
  subst e9
  exact kk q H1 hP1 hD1 hS1
/-- a call of a static write; the callee's world is the caller's -/
theorem mu_callSV {S : Type} {r : S → Option Value} {post : S → Prop} {w : S → va_W} {y : MethodName} {bytes : ByteArray} {maxL nL n index : Nat} {ret : Option FieldType} {wm Ts : List Cond} {rm : Room} {own : String} {As : List Value} {wc : va_W}
    (Sx : CallFix p m c cc nL s args Ts own) (hM : Met l y wm rm (mu_Pc D cl tys wc As) (mu_Q D cl wc r post w) 0 0 (mu_A wc)) (cw : CallB R s args own index y bytes maxL ret wm rm 0 0 n ∧ (Cond.static y).before args s = true)
    (hK : va_K D cl tys s) (hP : va_P D cl wc H) (hD : va_D A wc) (hS : va_S A H0 H locs) (hw : ∀ u, post u → (w u).map Prod.fst = wc.map Prod.fst)
    (hn : As.length = n) (hsize : ls.size = nL) (hst : st0 = As.reverse ++ rest) (hW : (rest.map fun v => v.category).sum ≤ 8) (hdg : decode cc pc = .ok (.invokestatic index, 3)) (hf : cells ≤ R.cells ∧ slots ≤ R.slots)
    (kk : ∀ (u : S) (H1 : Heap) (locs1 : List Loc), post u → va_P D cl (w u) H1 → va_D A (w u) → va_S A H0 H1 locs1 → W p l e R s m args below meth c H1 locs1 cells slots Q (F0 m (pc + 3) ls ((r u).toList ++ rest))) : W p l e R s m args below meth c H locs cells slots Q (F0 m pc ls st0) := by
  have hrun := va_runS (g := F0 m pc ls st0) (rest := rest) (As := As) (locs := locs) (cells := cells) (slots := slots) (below := below) (meth := meth) (e := e) (R := R) Sx hM cw ⟨mu_blind, fun U hU hW => ⟨rfl, by rw [hU]; exact hP, va_K.moved hW.alike hK, hD.weaken (fun _ _ _ _ => trivial)⟩⟩ rfl hn hsize hst (lv_room hW) hdg hf
  intro T hT X
  obtain ⟨v, st₀, t, T', L, h0, X', hL, e1, e2, ⟨u, hv, hp, hPu, hz, hk⟩, st⟩ := hrun T hT X
  cases hv
  rw [h0] at hz hk
  have hsub : ∀ x, mu_A wc x → A x := by
    rintro x ⟨i, e', hi⟩
    exact hD.2 i _ hi
  obtain ⟨t2, a1, b1⟩ := kk u T'.heap (locs ++ L) hp (by rw [e1]; exact hPu)
    (mu_fst (hw u hp) hD)
    ⟨Nat.le_trans hS.1 (by rw [e1]; exact hz), fun x h1 h2 => by rw [e1, hk x (Nat.lt_of_lt_of_le h1 hS.1) (fun z => h2 (hsub x z))]; exact hS.2.1 x h1 h2, fun x hx => by
      rcases List.mem_append.mp hx with h | h
      · exact hS.2.2 x h
      · exact hsub _ (hL x h)⟩ T' rfl X'
  exact ⟨t2, st t2 a1, b1⟩
end NW
set_option maxHeartbeats 4000000 in
set_option maxRecDepth 100000 in
theorem cx_fill (l : Launch) (G : va_G) (cl : List vw_C) (tys : List (ClassId × FieldType)) (ws : va_W) (q0 t0 : Nat) (b : Nat) (cA : ClassId) (n : Nat) (f : Nat → Int32) (v : Int32) (ha : ws[q0]? = some (b, .inl (cA, n, .inl f))) (ht : tys[t0]? = some (cA, .int)) (hn : n < 2 ^ 31) : Met l yJ7_fill_53178 wsJ7_fill_53178 { frames := 0, cells := 0, slots := 0, locals := 0 } (mu_Pc G cl tys ws [.ref b, .int v]) (mu_Q G cl ws (fun _ => none) (fun u9 : va_W => u9 = ws.set q0 (b, .inl (cA, n, .inl (fillf f v n)))) (fun u9 => u9)) 0 0 (mu_A ws) := by
  refine Met.ofW (cc := cJ7_fill_53178) (maxL := 4) (ret := none) (by decide) rfl ?_
  intro p e s m args below meth c s₁ B hml hv
  obtain ⟨rfl, hP, hK, hD0⟩ := hv
  have hx := B.exec
  have hb := B.bytes
  have hr := B.returns
  have hts := atoms_spec (ws := wsJ7_fill_53178) B.pre
  have hown : s.vm.findClass RJ7 = some m.cls := findClass_of_methodNamed B.named
  have hlocks := B.notSynchronized
  have hD := mu_own hD0
  have hS : va_S (mu_A ws) s.heap s.heap [] := va_S.rf
  have hq : q0 < ws.length := (List.getElem?_eq_some_iff.mp ha).1
  have hself : ws.set q0 (b, .inl (cA, n, .inl (fillf f v 0))) = ws := by
    rw [fillf_0]
    apply List.ext_getElem?
    intro i
    by_cases hi : q0 = i
    · subst hi; rw [List.getElem?_set_self hq, ha]
    · rw [List.getElem?_set_ne hi]
  have hl := lv_entry ([.ref b, .int v]) (n := 4) (Nat.le_of_ble_eq_true rfl)
  rw [lg_entry_eq]
  generalize (lg_sl ([.ref b, .int v]) ++ List.replicate (4 - (lg_sl ([.ref b, .int v])).length) Slot.unset).toArray = ls at hl ⊢
  have hl : lv_has ls 4 [(0, .ref b), (1, .int v)] := hl
  refine lv_iconst (v := nI 0) hx hb dJ7_fill_53178_0 (by decide) ?_
  refine lv_istore_n (lv' := [(2, .int (nI 0)), (0, .ref b), (1, .int v)]) hx hb dJ7_fill_53178_1 rfl hl (by decide) rfl (fun ls hl => ?_)
  refine lv_aload_n hx hb dJ7_fill_53178_2 rfl (lv_at hl 1 rfl) ?_
  refine va_alen (v := nI n) hx hb hK hP q0 t0 ha ht rfl dJ7_fill_53178_3 ?_
  refine lv_istore_n (lv' := [(3, .int (nI n)), (2, .int (nI 0)), (0, .ref b), (1, .int v)]) hx hb dJ7_fill_53178_4 rfl hl (by decide) rfl (fun ls hl => ?_)
  refine mu_loop (H0 := s.heap) (fun k ls H locs => ∃ (i : Nat), i + k = n ∧ va_P G cl (ws.set q0 (b, .inl (cA, n, .inl (fillf f v i)))) H ∧ va_D (mu_A ws) (ws.set q0 (b, .inl (cA, n, .inl (fillf f v i)))) ∧ va_S (mu_A ws) s.heap H locs ∧ lv_has ls 4 [(3, .int (nI n)), (2, .int (nI i)), (0, .ref b), (1, .int v)]) ?_ n ls s.heap [] ⟨0, by omega, by rw [hself]; exact hP, by rw [hself]; exact hD, hS, hl⟩
  intro k5 ls H locs ⟨i, hk, hP, hD, hS, hl⟩ ih5
  refine lv_iload_n hx hb dJ7_fill_53178_5 rfl (lv_at hl 1 rfl) ?_
  refine lv_iload_n hx hb dJ7_fill_53178_6 rfl (lv_at hl 0 rfl) ?_
  refine nb_ge (tgt := 20) hx hb dJ7_fill_53178_7 (by decide) (by omega) (by omega) (fun c7 => ?_) (fun c7 => ?_)
  · exact mu_vret (ws.set q0 (b, .inl (cA, n, .inl (fillf f v i)))) hx hb hr hS hP (by rw [show i = n by omega]) rfl dJ7_fill_53178_20 hlocks
  · refine lv_aload_n hx hb dJ7_fill_53178_10 rfl (lv_at hl 2 rfl) ?_
    refine lv_iload_n hx hb dJ7_fill_53178_11 rfl (lv_at hl 1 rfl) ?_
    refine lv_iload_n hx hb dJ7_fill_53178_12 rfl (lv_at hl 3 rfl) ?_
    refine mu_iast hx hb hK hP hD hS q0 t0 (List.getElem?_set_self hq) ht c7 hn dJ7_fill_53178_13 (ws1 := ws.set q0 (b, .inl (cA, n, .inl (fillf f v (i + 1))))) (by rw [List.set_set, fillf_s]) (fun H locs hP hD hS => ?_)
    refine lv_iinc (v := nI (i + 1)) (lv' := [(2, .int (nI (i + 1))), (3, .int (nI n)), (0, .ref b), (1, .int v)]) hx hb dJ7_fill_53178_14 hl (k := 1) rfl (ni_inc _) (by decide) rfl (fun ls hl => ?_)
    refine lv_goto (tgt := 5) hx hb dJ7_fill_53178_17 (by decide) ?_
    exact ih5 (k5 - 1) ls H locs (by omega) ⟨i + 1, by omega, hP, hD, hS, (lv_sub hl [1, 0, 2, 3] rfl)⟩
