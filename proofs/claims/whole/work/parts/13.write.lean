/-! WRITES: contracts under which the addresses stay and the contents change; nothing is made -/
def mu_A (ws : va_W) : Nat → Prop := fun q => ∃ (k : Nat) (e : va_E), ws[k]? = some (q, e)
def mu_Pc (D : va_G) (cl : List vw_C) (tys : List (ClassId × FieldType)) (ws : va_W) (av : List Value) : Array Value → State → Prop := va_Pc av (fun U => va_P D cl ws U.heap ∧ va_K D cl tys U ∧ va_D (fun _ => True) ws)
def mu_Q {S : Type} (D : va_G) (cl : List vw_C) (ws : va_W) (r : S → Option Value) (post : S → Prop) (w : S → va_W) : Array Value → State → Outcome → State → Prop :=
  fun _ st o t => ∃ u : S, o = .returned (r u) ∧ post u ∧ va_P D cl (w u) t.heap ∧ va_F (mu_A ws) st t
theorem mu_blind {D : va_G} {cl : List vw_C} {tys : List (ClassId × FieldType)} {ws : va_W} {av : List Value} : FrameBlind (mu_Pc D cl tys ws av) := fun a U g mk q => by
  obtain ⟨q0, qP, qK, qD⟩ := q
  exact ⟨q0, qP, va_K.moved (u := U) (U := U.calling g mk a) (Vm.Alike.refl U.vm) qK, qD⟩
theorem mu_own {A : Nat → Prop} {ws : va_W} (h : va_D A ws) : va_D (mu_A ws) ws := ⟨h.1, fun k q hk => ⟨k, q.2, hk⟩⟩
theorem mu_fst {A : Nat → Prop} {ws ws' : va_W} (he : ws'.map Prod.fst = ws.map Prod.fst) (h : va_D A ws) : va_D A ws' := by
  have key : ∀ (k : Nat) (q : Nat × va_E), ws'[k]? = some q → ∃ q', ws[k]? = some q' ∧ q'.1 = q.1 := by
    intro k q hq
    have h1 : (ws'.map Prod.fst)[k]? = some q.1 := by rw [List.getElem?_map, hq]; rfl
    rw [he, List.getElem?_map] at h1
    cases hk : ws[k]? with
    | none => rw [hk] at h1; cases h1
    | some q' => rw [hk] at h1; exact ⟨q', rfl, Option.some.inj h1⟩
  refine ⟨fun i j p q hp hq hpq => ?_, fun k q hk => ?_⟩
  · obtain ⟨p', h1, h2⟩ := key i p hp
    obtain ⟨q', h3, h4⟩ := key j q hq
    exact h.1 i j p' q' h1 h3 (by rw [h2, h4, hpq])
  · obtain ⟨q', h1, h2⟩ := key k q hk
    rw [← h2]
    exact h.2 k q' h1
theorem mu_left {A : Nat → Prop} {wc wr : va_W} (h : va_D A (wc ++ wr)) : va_D A wc := by
  refine ⟨fun i j p q hp hq => ?_, fun k q hk => ?_⟩
  · exact h.1 i j p q (by rw [List.getElem?_append_left (List.getElem?_eq_some_iff.mp hp).1]; exact hp) (by rw [List.getElem?_append_left (List.getElem?_eq_some_iff.mp hq).1]; exact hq)
  · exact h.2 k q (by rw [List.getElem?_append_left (List.getElem?_eq_some_iff.mp hk).1]; exact hk)
theorem mu_apart {A : Nat → Prop} {wc wr : va_W} (h : va_D A (wc ++ wr)) {k : Nat} {q : Nat × va_E} (hq : wr[k]? = some q) : ¬ mu_A wc q.1 := by
  rintro ⟨i, e, hi⟩
  have hl := (List.getElem?_eq_some_iff.mp hi).1
  have h1 : (wc ++ wr)[i]? = some (q.1, e) := by rw [List.getElem?_append_left hl]; exact hi
  have h2 : (wc ++ wr)[wc.length + k]? = some q := by rw [List.getElem?_append_right (by omega), Nat.add_sub_cancel_left]; exact hq
  have := h.1 i (wc.length + k) _ _ h1 h2 rfl
  omega
section MU
variable {p : Program} {l : Launch} {e : Env} {R : Room} {s : State} {m : MethodId} {args : Array Value} {below : List Frame} {meth : Method} {c : Code} {H : Heap} {locs : List Loc} {cells slots : Nat} {Q : State → Prop}
variable {cc : ByteArray} {pc : Nat} {ls : Array Slot} {rest st0 : List Value} {D : va_G} {cl : List vw_C} {tys : List (ClassId × FieldType)} {ws : va_W}
theorem mu_iret {S : Type} {r : S → Option Value} {post : S → Prop} {w : S → va_W} (u : S) (hexec : p.tables.exec = Jvm.exec) (hb : c.code = cc) (hr : meth.sig.returnType = some .int) (hS : va_S (mu_A ws) s.heap H locs) (hP : va_P D cl (w u) H) (hp : post u) {v : Int32} (hv : r u = some (.int v)) (hdg : decode cc pc = .ok (.ireturn, 1)) (hlocks : meth.locks = false) :
    W p l e R s m args below meth c H locs cells slots (MQ below (mu_Q D cl ws r post w) args s cells slots (mu_A ws)) (F0 m pc ls [.int v]) :=
  W.iret hexec hb hr (fun t ht _ => ⟨u, by rw [hv], hp, by rw [ht]; exact hP, hS.F ht⟩) hS.2.2 hdg hlocks
theorem mu_zret {S : Type} {r : S → Option Value} {post : S → Prop} {w : S → va_W} (u : S) (hexec : p.tables.exec = Jvm.exec) (hb : c.code = cc) (hr : meth.sig.returnType = some .boolean) (hS : va_S (mu_A ws) s.heap H locs) (hP : va_P D cl (w u) H) (hp : post u) {v : Int32} (hn : narrow .boolean (.int v) = .int v) (hv : r u = some (.int v)) (hdg : decode cc pc = .ok (.ireturn, 1)) (hlocks : meth.locks = false) :
    W p l e R s m args below meth c H locs cells slots (MQ below (mu_Q D cl ws r post w) args s cells slots (mu_A ws)) (F0 m pc ls [.int v]) :=
  W.zret hexec hb hr hn (fun t ht _ => ⟨u, by rw [hv], hp, by rw [ht]; exact hP, hS.F ht⟩) hS.2.2 hdg hlocks
theorem mu_vret {S : Type} {r : S → Option Value} {post : S → Prop} {w : S → va_W} (u : S) (hexec : p.tables.exec = Jvm.exec) (hb : c.code = cc) (hr : meth.sig.returnType = none) (hS : va_S (mu_A ws) s.heap H locs) (hP : va_P D cl (w u) H) (hp : post u) (hv : r u = none) (hdg : decode cc pc = .ok (.return_, 1)) (hlocks : meth.locks = false) :
    W p l e R s m args below meth c H locs cells slots (MQ below (mu_Q D cl ws r post w) args s cells slots (mu_A ws)) (F0 m pc ls []) :=
  W.vret hexec hb hr (fun t ht _ => ⟨u, by rw [hv], hp, by rw [ht]; exact hP, hS.F ht⟩) hS.2.2 hdg hlocks
/-- a call of a write, on an object of the world wc; beside it stands the world wr -/
theorem mu_callF {S : Type} {r : S → Option Value} {post : S → Prop} {w : S → va_W} {A : Nat → Prop} {H0 : Heap} {y : MethodName} {bytes : ByteArray} {maxL nL n index : Nat} {ret : Option FieldType} {wm Ts : List Cond} {rm : Room} {own C : String} {b q0 ci : Nat} {As : List Value} {q : vw_C} {fs : List Value} {wc wr : va_W}
    (Sx : CallFix p m c cc nL s args Ts own) (hM : Met l y wm rm (mu_Pc D cl tys wc (.ref b :: As)) (mu_Q D cl wc r post w) 0 0 (mu_A wc)) (cw : CallW R s args own C index y bytes maxL ret wm rm 0 0 n)
    (hK : va_K D cl tys s) (hP : va_P D cl wc H) (hPr : va_P D cl wr H) (hD : va_D A (wc ++ wr)) (hS : va_S A H0 H locs) (hc : cl[ci]? = some q) (he : wc[q0]? = some (b, .inr (ci, fs))) (hC : q.1 = C) (hw : ∀ u, post u → (w u).map Prod.fst = wc.map Prod.fst)
    (hn : As.length = n) (hsize : ls.size = nL) (hst : st0 = As.reverse ++ .ref b :: rest) (hW : (rest.map fun v => v.category).sum ≤ 8) (hdg : decode cc pc = .ok (.invokevirtual index, 3)) (hf : cells ≤ R.cells ∧ slots ≤ R.slots)
    (kk : ∀ (u : S) (H1 : Heap) (locs1 : List Loc), post u → va_P D cl (w u) H1 → va_P D cl wr H1 → va_D A (w u ++ wr) → va_S A H0 H1 locs1 → W p l e R s m args below meth c H1 locs1 cells slots Q (F0 m (pc + 3) ls ((r u).toList ++ rest))) : W p l e R s m args below meth c H locs cells slots Q (F0 m pc ls st0) := by
  subst hC
  have hDc := mu_left hD
  have hrun := va_runV (g := F0 m pc ls st0) (rest := rest) (As := As) (b := b) (locs := locs) (cells := cells) (slots := slots) (below := below) (meth := meth) (e := e) (R := R) Sx hM cw ⟨mu_blind, va_recv hK hP hc he, fun U hU hW => ⟨rfl, by rw [hU]; exact hP, va_K.moved hW.alike hK, hDc.weaken (fun _ _ _ _ => trivial)⟩⟩ rfl hn hsize hst (lv_room hW) hdg hf
  intro T hT X
  obtain ⟨v, st₀, t, T', L, h0, X', hL, e1, e2, ⟨u, hv, hp, hPu, hz, hk⟩, st⟩ := hrun T hT X
  cases hv
  rw [h0] at hz hk
  have hsub : ∀ x, mu_A wc x → A x := by
    rintro x ⟨i, e', hi⟩
    exact hDc.2 i _ hi
  obtain ⟨t2, a1, b1⟩ := kk u T'.heap (locs ++ L) hp (by rw [e1]; exact hPu)
    (fun k x hx => (hPr k x hx).kept (by rw [e1]; exact hk x.1 (hPr k x hx).lt (mu_apart hD hx)))
    (mu_fst (by rw [List.map_append, List.map_append, hw u hp]) hD)
    ⟨Nat.le_trans hS.1 (by rw [e1]; exact hz), fun x h1 h2 => by rw [e1, hk x (Nat.lt_of_lt_of_le h1 hS.1) (fun z => h2 (hsub x z))]; exact hS.2.1 x h1 h2, fun x hx => by
      rcases List.mem_append.mp hx with h | h
      · exact hS.2.2 x h
      · exact hsub _ (hL x h)⟩ T' rfl X'
  exact ⟨t2, st t2 a1, b1⟩
/-- the same, where the callee's world is the caller's -/
theorem mu_callV {S : Type} {r : S → Option Value} {post : S → Prop} {w : S → va_W} {A : Nat → Prop} {H0 : Heap} {y : MethodName} {bytes : ByteArray} {maxL nL n index : Nat} {ret : Option FieldType} {wm Ts : List Cond} {rm : Room} {own C : String} {b q0 ci : Nat} {As : List Value} {q : vw_C} {fs : List Value} {wc : va_W}
    (Sx : CallFix p m c cc nL s args Ts own) (hM : Met l y wm rm (mu_Pc D cl tys wc (.ref b :: As)) (mu_Q D cl wc r post w) 0 0 (mu_A wc)) (cw : CallW R s args own C index y bytes maxL ret wm rm 0 0 n)
    (hK : va_K D cl tys s) (hP : va_P D cl wc H) (hD : va_D A wc) (hS : va_S A H0 H locs) (hc : cl[ci]? = some q) (he : wc[q0]? = some (b, .inr (ci, fs))) (hC : q.1 = C) (hw : ∀ u, post u → (w u).map Prod.fst = wc.map Prod.fst)
    (hn : As.length = n) (hsize : ls.size = nL) (hst : st0 = As.reverse ++ .ref b :: rest) (hW : (rest.map fun v => v.category).sum ≤ 8) (hdg : decode cc pc = .ok (.invokevirtual index, 3)) (hf : cells ≤ R.cells ∧ slots ≤ R.slots)
    (kk : ∀ (u : S) (H1 : Heap) (locs1 : List Loc), post u → va_P D cl (w u) H1 → va_D A (w u) → va_S A H0 H1 locs1 → W p l e R s m args below meth c H1 locs1 cells slots Q (F0 m (pc + 3) ls ((r u).toList ++ rest))) : W p l e R s m args below meth c H locs cells slots Q (F0 m pc ls st0) :=
  mu_callF (wr := []) Sx hM cw hK hP (fun k x hx => by cases hx) (by rw [List.append_nil]; exact hD) hS hc he hC hw hn hsize hst hW hdg hf
    (fun u H1 locs1 h1 h2 _ h4 h5 => kk u H1 locs1 h1 h2 (by rw [List.append_nil] at h4; exact h4) h5)
end MU
